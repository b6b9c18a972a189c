/-! every block fits the bytes, by the kernel -/
theorem fit_Body_restart_0 : sm_fit (lt_R kBody_restart) (lt_n kBody_restart) (lt_fl kBody_restart).1 (lt_fl kBody_restart).2 (lt_r kBody_restart) (lt_b kBody_restart) (pc_Body_restart) (pc_Body_restart 0) (i_Body_restart_0) = true := by decide +kernel
theorem fit_Body_life_0 : sm_fit (lt_R kBody_life) (lt_n kBody_life) (lt_fl kBody_life).1 (lt_fl kBody_life).2 (lt_r kBody_life) (lt_b kBody_life) (pc_Body_life) (pc_Body_life 0) (i_Body_life_0) = true := by decide +kernel
theorem fit_Body_broken_0 : sm_fit (lt_R kBody_broken) (lt_n kBody_broken) (lt_fl kBody_broken).1 (lt_fl kBody_broken).2 (lt_r kBody_broken) (lt_b kBody_broken) (pc_Body_broken) (pc_Body_broken 0) (i_Body_broken_0) = true := by decide +kernel
theorem fit_Body_spot_0 : sm_fit (lt_R kBody_spot) (lt_n kBody_spot) (lt_fl kBody_spot).1 (lt_fl kBody_spot).2 (lt_r kBody_spot) (lt_b kBody_spot) (pc_Body_spot) (pc_Body_spot 0) (i_Body_spot_0) = true := by decide +kernel
theorem fit_Body_goTo_0 : sm_fit (lt_R kBody_goTo) (lt_n kBody_goTo) (lt_fl kBody_goTo).1 (lt_fl kBody_goTo).2 (lt_r kBody_goTo) (lt_b kBody_goTo) (pc_Body_goTo) (pc_Body_goTo 0) (i_Body_goTo_0) = true := by decide +kernel
theorem fit_Body_stepOf_0 : sm_fit (lt_R kBody_stepOf) (lt_n kBody_stepOf) (lt_fl kBody_stepOf).1 (lt_fl kBody_stepOf).2 (lt_r kBody_stepOf) (lt_b kBody_stepOf) (pc_Body_stepOf) (pc_Body_stepOf 0) (i_Body_stepOf_0) = true := by decide +kernel
theorem fit_Body_stepOf_1 : sm_fit (lt_R kBody_stepOf) (lt_n kBody_stepOf) (lt_fl kBody_stepOf).1 (lt_fl kBody_stepOf).2 (lt_r kBody_stepOf) (lt_b kBody_stepOf) (pc_Body_stepOf) (pc_Body_stepOf 1) (i_Body_stepOf_1) = true := by decide +kernel
theorem fit_Body_stepOf_2 : sm_fit (lt_R kBody_stepOf) (lt_n kBody_stepOf) (lt_fl kBody_stepOf).1 (lt_fl kBody_stepOf).2 (lt_r kBody_stepOf) (lt_b kBody_stepOf) (pc_Body_stepOf) (pc_Body_stepOf 2) (i_Body_stepOf_2) = true := by decide +kernel
theorem fit_Body_stepOf_3 : sm_fit (lt_R kBody_stepOf) (lt_n kBody_stepOf) (lt_fl kBody_stepOf).1 (lt_fl kBody_stepOf).2 (lt_r kBody_stepOf) (lt_b kBody_stepOf) (pc_Body_stepOf) (pc_Body_stepOf 3) (i_Body_stepOf_3) = true := by decide +kernel
theorem fit_Body_setStep_0 : sm_fit (lt_R kBody_setStep) (lt_n kBody_setStep) (lt_fl kBody_setStep).1 (lt_fl kBody_setStep).2 (lt_r kBody_setStep) (lt_b kBody_setStep) (pc_Body_setStep) (pc_Body_setStep 0) (i_Body_setStep_0) = true := by decide +kernel
theorem fit_Body_setStep_1 : sm_fit (lt_R kBody_setStep) (lt_n kBody_setStep) (lt_fl kBody_setStep).1 (lt_fl kBody_setStep).2 (lt_r kBody_setStep) (lt_b kBody_setStep) (pc_Body_setStep) (pc_Body_setStep 1) (i_Body_setStep_1) = true := by decide +kernel
theorem fit_Body_setStep_2 : sm_fit (lt_R kBody_setStep) (lt_n kBody_setStep) (lt_fl kBody_setStep).1 (lt_fl kBody_setStep).2 (lt_r kBody_setStep) (lt_b kBody_setStep) (pc_Body_setStep) (pc_Body_setStep 2) (i_Body_setStep_2) = true := by decide +kernel
theorem fit_Body_valueOf_0 : sm_fit (lt_R kBody_valueOf) (lt_n kBody_valueOf) (lt_fl kBody_valueOf).1 (lt_fl kBody_valueOf).2 (lt_r kBody_valueOf) (lt_b kBody_valueOf) (pc_Body_valueOf) (pc_Body_valueOf 0) (i_Body_valueOf_0) = true := by decide +kernel
theorem fit_Body_valueOf_1 : sm_fit (lt_R kBody_valueOf) (lt_n kBody_valueOf) (lt_fl kBody_valueOf).1 (lt_fl kBody_valueOf).2 (lt_r kBody_valueOf) (lt_b kBody_valueOf) (pc_Body_valueOf) (pc_Body_valueOf 1) (i_Body_valueOf_1) = true := by decide +kernel
theorem fit_Body_valueOf_2 : sm_fit (lt_R kBody_valueOf) (lt_n kBody_valueOf) (lt_fl kBody_valueOf).1 (lt_fl kBody_valueOf).2 (lt_r kBody_valueOf) (lt_b kBody_valueOf) (pc_Body_valueOf) (pc_Body_valueOf 2) (i_Body_valueOf_2) = true := by decide +kernel
theorem fit_Body_valueOf_3 : sm_fit (lt_R kBody_valueOf) (lt_n kBody_valueOf) (lt_fl kBody_valueOf).1 (lt_fl kBody_valueOf).2 (lt_r kBody_valueOf) (lt_b kBody_valueOf) (pc_Body_valueOf) (pc_Body_valueOf 3) (i_Body_valueOf_3) = true := by decide +kernel
theorem fit_Body_valueOf_4 : sm_fit (lt_R kBody_valueOf) (lt_n kBody_valueOf) (lt_fl kBody_valueOf).1 (lt_fl kBody_valueOf).2 (lt_r kBody_valueOf) (lt_b kBody_valueOf) (pc_Body_valueOf) (pc_Body_valueOf 4) (i_Body_valueOf_4) = true := by decide +kernel
theorem fit_Body_valueOf_5 : sm_fit (lt_R kBody_valueOf) (lt_n kBody_valueOf) (lt_fl kBody_valueOf).1 (lt_fl kBody_valueOf).2 (lt_r kBody_valueOf) (lt_b kBody_valueOf) (pc_Body_valueOf) (pc_Body_valueOf 5) (i_Body_valueOf_5) = true := by decide +kernel
theorem fit_Body_kindOf_0 : sm_fit (lt_R kBody_kindOf) (lt_n kBody_kindOf) (lt_fl kBody_kindOf).1 (lt_fl kBody_kindOf).2 (lt_r kBody_kindOf) (lt_b kBody_kindOf) (pc_Body_kindOf) (pc_Body_kindOf 0) (i_Body_kindOf_0) = true := by decide +kernel
theorem fit_Body_kindOf_1 : sm_fit (lt_R kBody_kindOf) (lt_n kBody_kindOf) (lt_fl kBody_kindOf).1 (lt_fl kBody_kindOf).2 (lt_r kBody_kindOf) (lt_b kBody_kindOf) (pc_Body_kindOf) (pc_Body_kindOf 1) (i_Body_kindOf_1) = true := by decide +kernel
theorem fit_Body_kindOf_2 : sm_fit (lt_R kBody_kindOf) (lt_n kBody_kindOf) (lt_fl kBody_kindOf).1 (lt_fl kBody_kindOf).2 (lt_r kBody_kindOf) (lt_b kBody_kindOf) (pc_Body_kindOf) (pc_Body_kindOf 2) (i_Body_kindOf_2) = true := by decide +kernel
theorem fit_Body_kindOf_3 : sm_fit (lt_R kBody_kindOf) (lt_n kBody_kindOf) (lt_fl kBody_kindOf).1 (lt_fl kBody_kindOf).2 (lt_r kBody_kindOf) (lt_b kBody_kindOf) (pc_Body_kindOf) (pc_Body_kindOf 3) (i_Body_kindOf_3) = true := by decide +kernel
theorem fit_Body_kindOf_4 : sm_fit (lt_R kBody_kindOf) (lt_n kBody_kindOf) (lt_fl kBody_kindOf).1 (lt_fl kBody_kindOf).2 (lt_r kBody_kindOf) (lt_b kBody_kindOf) (pc_Body_kindOf) (pc_Body_kindOf 4) (i_Body_kindOf_4) = true := by decide +kernel
theorem fit_Body_hasNothing_0 : sm_fit (lt_R kBody_hasNothing) (lt_n kBody_hasNothing) (lt_fl kBody_hasNothing).1 (lt_fl kBody_hasNothing).2 (lt_r kBody_hasNothing) (lt_b kBody_hasNothing) (pc_Body_hasNothing) (pc_Body_hasNothing 0) (i_Body_hasNothing_0) = true := by decide +kernel
theorem fit_Body_hasNothing_1 : sm_fit (lt_R kBody_hasNothing) (lt_n kBody_hasNothing) (lt_fl kBody_hasNothing).1 (lt_fl kBody_hasNothing).2 (lt_r kBody_hasNothing) (lt_b kBody_hasNothing) (pc_Body_hasNothing) (pc_Body_hasNothing 1) (i_Body_hasNothing_1) = true := by decide +kernel
theorem fit_Body_hasNothing_2 : sm_fit (lt_R kBody_hasNothing) (lt_n kBody_hasNothing) (lt_fl kBody_hasNothing).1 (lt_fl kBody_hasNothing).2 (lt_r kBody_hasNothing) (lt_b kBody_hasNothing) (pc_Body_hasNothing) (pc_Body_hasNothing 2) (i_Body_hasNothing_2) = true := by decide +kernel
theorem fit_Body_hasNothing_3 : sm_fit (lt_R kBody_hasNothing) (lt_n kBody_hasNothing) (lt_fl kBody_hasNothing).1 (lt_fl kBody_hasNothing).2 (lt_r kBody_hasNothing) (lt_b kBody_hasNothing) (pc_Body_hasNothing) (pc_Body_hasNothing 3) (i_Body_hasNothing_3) = true := by decide +kernel
theorem fit_Body_owns_0 : sm_fit (lt_R kBody_owns) (lt_n kBody_owns) (lt_fl kBody_owns).1 (lt_fl kBody_owns).2 (lt_r kBody_owns) (lt_b kBody_owns) (pc_Body_owns) (pc_Body_owns 0) (i_Body_owns_0) = true := by decide +kernel
theorem fit_Body_owns_1 : sm_fit (lt_R kBody_owns) (lt_n kBody_owns) (lt_fl kBody_owns).1 (lt_fl kBody_owns).2 (lt_r kBody_owns) (lt_b kBody_owns) (pc_Body_owns) (pc_Body_owns 1) (i_Body_owns_1) = true := by decide +kernel
theorem fit_Body_owns_2 : sm_fit (lt_R kBody_owns) (lt_n kBody_owns) (lt_fl kBody_owns).1 (lt_fl kBody_owns).2 (lt_r kBody_owns) (lt_b kBody_owns) (pc_Body_owns) (pc_Body_owns 2) (i_Body_owns_2) = true := by decide +kernel
theorem fit_Body_owns_3 : sm_fit (lt_R kBody_owns) (lt_n kBody_owns) (lt_fl kBody_owns).1 (lt_fl kBody_owns).2 (lt_r kBody_owns) (lt_b kBody_owns) (pc_Body_owns) (pc_Body_owns 3) (i_Body_owns_3) = true := by decide +kernel
theorem fit_Body_owns_4 : sm_fit (lt_R kBody_owns) (lt_n kBody_owns) (lt_fl kBody_owns).1 (lt_fl kBody_owns).2 (lt_r kBody_owns) (lt_b kBody_owns) (pc_Body_owns) (pc_Body_owns 4) (i_Body_owns_4) = true := by decide +kernel
theorem fit_Body_owns_5 : sm_fit (lt_R kBody_owns) (lt_n kBody_owns) (lt_fl kBody_owns).1 (lt_fl kBody_owns).2 (lt_r kBody_owns) (lt_b kBody_owns) (pc_Body_owns) (pc_Body_owns 5) (i_Body_owns_5) = true := by decide +kernel
theorem fit_Body_ownsLinear_0 : sm_fit (lt_R kBody_ownsLinear) (lt_n kBody_ownsLinear) (lt_fl kBody_ownsLinear).1 (lt_fl kBody_ownsLinear).2 (lt_r kBody_ownsLinear) (lt_b kBody_ownsLinear) (pc_Body_ownsLinear) (pc_Body_ownsLinear 0) (i_Body_ownsLinear_0) = true := by decide +kernel
theorem fit_Body_ownsLinear_1 : sm_fit (lt_R kBody_ownsLinear) (lt_n kBody_ownsLinear) (lt_fl kBody_ownsLinear).1 (lt_fl kBody_ownsLinear).2 (lt_r kBody_ownsLinear) (lt_b kBody_ownsLinear) (pc_Body_ownsLinear) (pc_Body_ownsLinear 1) (i_Body_ownsLinear_1) = true := by decide +kernel
theorem fit_Body_ownsLinear_2 : sm_fit (lt_R kBody_ownsLinear) (lt_n kBody_ownsLinear) (lt_fl kBody_ownsLinear).1 (lt_fl kBody_ownsLinear).2 (lt_r kBody_ownsLinear) (lt_b kBody_ownsLinear) (pc_Body_ownsLinear) (pc_Body_ownsLinear 2) (i_Body_ownsLinear_2) = true := by decide +kernel
theorem fit_Body_ownsLinear_3 : sm_fit (lt_R kBody_ownsLinear) (lt_n kBody_ownsLinear) (lt_fl kBody_ownsLinear).1 (lt_fl kBody_ownsLinear).2 (lt_r kBody_ownsLinear) (lt_b kBody_ownsLinear) (pc_Body_ownsLinear) (pc_Body_ownsLinear 3) (i_Body_ownsLinear_3) = true := by decide +kernel
theorem fit_Body_ownsLinear_4 : sm_fit (lt_R kBody_ownsLinear) (lt_n kBody_ownsLinear) (lt_fl kBody_ownsLinear).1 (lt_fl kBody_ownsLinear).2 (lt_r kBody_ownsLinear) (lt_b kBody_ownsLinear) (pc_Body_ownsLinear) (pc_Body_ownsLinear 4) (i_Body_ownsLinear_4) = true := by decide +kernel
theorem fit_Body_shares_0 : sm_fit (lt_R kBody_shares) (lt_n kBody_shares) (lt_fl kBody_shares).1 (lt_fl kBody_shares).2 (lt_r kBody_shares) (lt_b kBody_shares) (pc_Body_shares) (pc_Body_shares 0) (i_Body_shares_0) = true := by decide +kernel
theorem fit_Body_shares_1 : sm_fit (lt_R kBody_shares) (lt_n kBody_shares) (lt_fl kBody_shares).1 (lt_fl kBody_shares).2 (lt_r kBody_shares) (lt_b kBody_shares) (pc_Body_shares) (pc_Body_shares 1) (i_Body_shares_1) = true := by decide +kernel
theorem fit_Body_shares_2 : sm_fit (lt_R kBody_shares) (lt_n kBody_shares) (lt_fl kBody_shares).1 (lt_fl kBody_shares).2 (lt_r kBody_shares) (lt_b kBody_shares) (pc_Body_shares) (pc_Body_shares 2) (i_Body_shares_2) = true := by decide +kernel
theorem fit_Body_shares_3 : sm_fit (lt_R kBody_shares) (lt_n kBody_shares) (lt_fl kBody_shares).1 (lt_fl kBody_shares).2 (lt_r kBody_shares) (lt_b kBody_shares) (pc_Body_shares) (pc_Body_shares 3) (i_Body_shares_3) = true := by decide +kernel
theorem fit_Body_shares_4 : sm_fit (lt_R kBody_shares) (lt_n kBody_shares) (lt_fl kBody_shares).1 (lt_fl kBody_shares).2 (lt_r kBody_shares) (lt_b kBody_shares) (pc_Body_shares) (pc_Body_shares 4) (i_Body_shares_4) = true := by decide +kernel
theorem fit_Body_shares_5 : sm_fit (lt_R kBody_shares) (lt_n kBody_shares) (lt_fl kBody_shares).1 (lt_fl kBody_shares).2 (lt_r kBody_shares) (lt_b kBody_shares) (pc_Body_shares) (pc_Body_shares 5) (i_Body_shares_5) = true := by decide +kernel
theorem fit_Body_borrows_0 : sm_fit (lt_R kBody_borrows) (lt_n kBody_borrows) (lt_fl kBody_borrows).1 (lt_fl kBody_borrows).2 (lt_r kBody_borrows) (lt_b kBody_borrows) (pc_Body_borrows) (pc_Body_borrows 0) (i_Body_borrows_0) = true := by decide +kernel
theorem fit_Body_borrows_1 : sm_fit (lt_R kBody_borrows) (lt_n kBody_borrows) (lt_fl kBody_borrows).1 (lt_fl kBody_borrows).2 (lt_r kBody_borrows) (lt_b kBody_borrows) (pc_Body_borrows) (pc_Body_borrows 1) (i_Body_borrows_1) = true := by decide +kernel
theorem fit_Body_borrows_2 : sm_fit (lt_R kBody_borrows) (lt_n kBody_borrows) (lt_fl kBody_borrows).1 (lt_fl kBody_borrows).2 (lt_r kBody_borrows) (lt_b kBody_borrows) (pc_Body_borrows) (pc_Body_borrows 2) (i_Body_borrows_2) = true := by decide +kernel
theorem fit_Body_borrows_3 : sm_fit (lt_R kBody_borrows) (lt_n kBody_borrows) (lt_fl kBody_borrows).1 (lt_fl kBody_borrows).2 (lt_r kBody_borrows) (lt_b kBody_borrows) (pc_Body_borrows) (pc_Body_borrows 3) (i_Body_borrows_3) = true := by decide +kernel
theorem fit_Body_borrows_4 : sm_fit (lt_R kBody_borrows) (lt_n kBody_borrows) (lt_fl kBody_borrows).1 (lt_fl kBody_borrows).2 (lt_r kBody_borrows) (lt_b kBody_borrows) (pc_Body_borrows) (pc_Body_borrows 4) (i_Body_borrows_4) = true := by decide +kernel
theorem fit_Body_borrows_5 : sm_fit (lt_R kBody_borrows) (lt_n kBody_borrows) (lt_fl kBody_borrows).1 (lt_fl kBody_borrows).2 (lt_r kBody_borrows) (lt_b kBody_borrows) (pc_Body_borrows) (pc_Body_borrows 5) (i_Body_borrows_5) = true := by decide +kernel
theorem fit_Body_isLapsed_0 : sm_fit (lt_R kBody_isLapsed) (lt_n kBody_isLapsed) (lt_fl kBody_isLapsed).1 (lt_fl kBody_isLapsed).2 (lt_r kBody_isLapsed) (lt_b kBody_isLapsed) (pc_Body_isLapsed) (pc_Body_isLapsed 0) (i_Body_isLapsed_0) = true := by decide +kernel
theorem fit_Body_isLapsed_1 : sm_fit (lt_R kBody_isLapsed) (lt_n kBody_isLapsed) (lt_fl kBody_isLapsed).1 (lt_fl kBody_isLapsed).2 (lt_r kBody_isLapsed) (lt_b kBody_isLapsed) (pc_Body_isLapsed) (pc_Body_isLapsed 1) (i_Body_isLapsed_1) = true := by decide +kernel
theorem fit_Body_isLapsed_2 : sm_fit (lt_R kBody_isLapsed) (lt_n kBody_isLapsed) (lt_fl kBody_isLapsed).1 (lt_fl kBody_isLapsed).2 (lt_r kBody_isLapsed) (lt_b kBody_isLapsed) (pc_Body_isLapsed) (pc_Body_isLapsed 2) (i_Body_isLapsed_2) = true := by decide +kernel
theorem fit_Body_isLapsed_3 : sm_fit (lt_R kBody_isLapsed) (lt_n kBody_isLapsed) (lt_fl kBody_isLapsed).1 (lt_fl kBody_isLapsed).2 (lt_r kBody_isLapsed) (lt_b kBody_isLapsed) (pc_Body_isLapsed) (pc_Body_isLapsed 3) (i_Body_isLapsed_3) = true := by decide +kernel
theorem fit_Body_isLapsed_4 : sm_fit (lt_R kBody_isLapsed) (lt_n kBody_isLapsed) (lt_fl kBody_isLapsed).1 (lt_fl kBody_isLapsed).2 (lt_r kBody_isLapsed) (lt_b kBody_isLapsed) (pc_Body_isLapsed) (pc_Body_isLapsed 4) (i_Body_isLapsed_4) = true := by decide +kernel
theorem fit_Body_isLapsed_5 : sm_fit (lt_R kBody_isLapsed) (lt_n kBody_isLapsed) (lt_fl kBody_isLapsed).1 (lt_fl kBody_isLapsed).2 (lt_r kBody_isLapsed) (lt_b kBody_isLapsed) (pc_Body_isLapsed) (pc_Body_isLapsed 5) (i_Body_isLapsed_5) = true := by decide +kernel
theorem fit_Body_own_0 : sm_fit (lt_R kBody_own) (lt_n kBody_own) (lt_fl kBody_own).1 (lt_fl kBody_own).2 (lt_r kBody_own) (lt_b kBody_own) (pc_Body_own) (pc_Body_own 0) (i_Body_own_0) = true := by decide +kernel
theorem fit_Body_own_1 : sm_fit (lt_R kBody_own) (lt_n kBody_own) (lt_fl kBody_own).1 (lt_fl kBody_own).2 (lt_r kBody_own) (lt_b kBody_own) (pc_Body_own) (pc_Body_own 1) (i_Body_own_1) = true := by decide +kernel
theorem fit_Body_own_2 : sm_fit (lt_R kBody_own) (lt_n kBody_own) (lt_fl kBody_own).1 (lt_fl kBody_own).2 (lt_r kBody_own) (lt_b kBody_own) (pc_Body_own) (pc_Body_own 2) (i_Body_own_2) = true := by decide +kernel
theorem fit_Body_move_0 : sm_fit (lt_R kBody_move) (lt_n kBody_move) (lt_fl kBody_move).1 (lt_fl kBody_move).2 (lt_r kBody_move) (lt_b kBody_move) (pc_Body_move) (pc_Body_move 0) (i_Body_move_0) = true := by decide +kernel
theorem fit_Body_move_1 : sm_fit (lt_R kBody_move) (lt_n kBody_move) (lt_fl kBody_move).1 (lt_fl kBody_move).2 (lt_r kBody_move) (lt_b kBody_move) (pc_Body_move) (pc_Body_move 1) (i_Body_move_1) = true := by decide +kernel
theorem fit_Body_move_2 : sm_fit (lt_R kBody_move) (lt_n kBody_move) (lt_fl kBody_move).1 (lt_fl kBody_move).2 (lt_r kBody_move) (lt_b kBody_move) (pc_Body_move) (pc_Body_move 2) (i_Body_move_2) = true := by decide +kernel
theorem fit_Body_move_3 : sm_fit (lt_R kBody_move) (lt_n kBody_move) (lt_fl kBody_move).1 (lt_fl kBody_move).2 (lt_r kBody_move) (lt_b kBody_move) (pc_Body_move) (pc_Body_move 3) (i_Body_move_3) = true := by decide +kernel
theorem fit_Body_move_4 : sm_fit (lt_R kBody_move) (lt_n kBody_move) (lt_fl kBody_move).1 (lt_fl kBody_move).2 (lt_r kBody_move) (lt_b kBody_move) (pc_Body_move) (pc_Body_move 4) (i_Body_move_4) = true := by decide +kernel
theorem fit_Body_move_5 : sm_fit (lt_R kBody_move) (lt_n kBody_move) (lt_fl kBody_move).1 (lt_fl kBody_move).2 (lt_r kBody_move) (lt_b kBody_move) (pc_Body_move) (pc_Body_move 5) (i_Body_move_5) = true := by decide +kernel
theorem fit_Body_move_6 : sm_fit (lt_R kBody_move) (lt_n kBody_move) (lt_fl kBody_move).1 (lt_fl kBody_move).2 (lt_r kBody_move) (lt_b kBody_move) (pc_Body_move) (pc_Body_move 6) (i_Body_move_6) = true := by decide +kernel
theorem fit_Body_move_7 : sm_fit (lt_R kBody_move) (lt_n kBody_move) (lt_fl kBody_move).1 (lt_fl kBody_move).2 (lt_r kBody_move) (lt_b kBody_move) (pc_Body_move) (pc_Body_move 7) (i_Body_move_7) = true := by decide +kernel
theorem fit_Body_move_8 : sm_fit (lt_R kBody_move) (lt_n kBody_move) (lt_fl kBody_move).1 (lt_fl kBody_move).2 (lt_r kBody_move) (lt_b kBody_move) (pc_Body_move) (pc_Body_move 8) (i_Body_move_8) = true := by decide +kernel
theorem fit_Body_move_9 : sm_fit (lt_R kBody_move) (lt_n kBody_move) (lt_fl kBody_move).1 (lt_fl kBody_move).2 (lt_r kBody_move) (lt_b kBody_move) (pc_Body_move) (pc_Body_move 9) (i_Body_move_9) = true := by decide +kernel
theorem fit_Body_handOver_0 : sm_fit (lt_R kBody_handOver) (lt_n kBody_handOver) (lt_fl kBody_handOver).1 (lt_fl kBody_handOver).2 (lt_r kBody_handOver) (lt_b kBody_handOver) (pc_Body_handOver) (pc_Body_handOver 0) (i_Body_handOver_0) = true := by decide +kernel
theorem fit_Body_handOver_1 : sm_fit (lt_R kBody_handOver) (lt_n kBody_handOver) (lt_fl kBody_handOver).1 (lt_fl kBody_handOver).2 (lt_r kBody_handOver) (lt_b kBody_handOver) (pc_Body_handOver) (pc_Body_handOver 1) (i_Body_handOver_1) = true := by decide +kernel
theorem fit_Body_handOver_2 : sm_fit (lt_R kBody_handOver) (lt_n kBody_handOver) (lt_fl kBody_handOver).1 (lt_fl kBody_handOver).2 (lt_r kBody_handOver) (lt_b kBody_handOver) (pc_Body_handOver) (pc_Body_handOver 2) (i_Body_handOver_2) = true := by decide +kernel
theorem fit_Body_free_0 : sm_fit (lt_R kBody_free) (lt_n kBody_free) (lt_fl kBody_free).1 (lt_fl kBody_free).2 (lt_r kBody_free) (lt_b kBody_free) (pc_Body_free) (pc_Body_free 0) (i_Body_free_0) = true := by decide +kernel
theorem fit_Body_read_0 : sm_fit (lt_R kBody_read) (lt_n kBody_read) (lt_fl kBody_read).1 (lt_fl kBody_read).2 (lt_r kBody_read) (lt_b kBody_read) (pc_Body_read) (pc_Body_read 0) (i_Body_read_0) = true := by decide +kernel
theorem fit_Body_write_0 : sm_fit (lt_R kBody_write) (lt_n kBody_write) (lt_fl kBody_write).1 (lt_fl kBody_write).2 (lt_r kBody_write) (lt_b kBody_write) (pc_Body_write) (pc_Body_write 0) (i_Body_write_0) = true := by decide +kernel
theorem fit_Body_share_0 : sm_fit (lt_R kBody_share) (lt_n kBody_share) (lt_fl kBody_share).1 (lt_fl kBody_share).2 (lt_r kBody_share) (lt_b kBody_share) (pc_Body_share) (pc_Body_share 0) (i_Body_share_0) = true := by decide +kernel
theorem fit_Body_share_1 : sm_fit (lt_R kBody_share) (lt_n kBody_share) (lt_fl kBody_share).1 (lt_fl kBody_share).2 (lt_r kBody_share) (lt_b kBody_share) (pc_Body_share) (pc_Body_share 1) (i_Body_share_1) = true := by decide +kernel
theorem fit_Body_share_2 : sm_fit (lt_R kBody_share) (lt_n kBody_share) (lt_fl kBody_share).1 (lt_fl kBody_share).2 (lt_r kBody_share) (lt_b kBody_share) (pc_Body_share) (pc_Body_share 2) (i_Body_share_2) = true := by decide +kernel
theorem fit_Body_lend_0 : sm_fit (lt_R kBody_lend) (lt_n kBody_lend) (lt_fl kBody_lend).1 (lt_fl kBody_lend).2 (lt_r kBody_lend) (lt_b kBody_lend) (pc_Body_lend) (pc_Body_lend 0) (i_Body_lend_0) = true := by decide +kernel
theorem fit_Body_borrow_0 : sm_fit (lt_R kBody_borrow) (lt_n kBody_borrow) (lt_fl kBody_borrow).1 (lt_fl kBody_borrow).2 (lt_r kBody_borrow) (lt_b kBody_borrow) (pc_Body_borrow) (pc_Body_borrow 0) (i_Body_borrow_0) = true := by decide +kernel
theorem fit_Body_borrow_1 : sm_fit (lt_R kBody_borrow) (lt_n kBody_borrow) (lt_fl kBody_borrow).1 (lt_fl kBody_borrow).2 (lt_r kBody_borrow) (lt_b kBody_borrow) (pc_Body_borrow) (pc_Body_borrow 1) (i_Body_borrow_1) = true := by decide +kernel
theorem fit_Body_borrow_2 : sm_fit (lt_R kBody_borrow) (lt_n kBody_borrow) (lt_fl kBody_borrow).1 (lt_fl kBody_borrow).2 (lt_r kBody_borrow) (lt_b kBody_borrow) (pc_Body_borrow) (pc_Body_borrow 2) (i_Body_borrow_2) = true := by decide +kernel
theorem fit_Body_borrow_3 : sm_fit (lt_R kBody_borrow) (lt_n kBody_borrow) (lt_fl kBody_borrow).1 (lt_fl kBody_borrow).2 (lt_r kBody_borrow) (lt_b kBody_borrow) (pc_Body_borrow) (pc_Body_borrow 3) (i_Body_borrow_3) = true := by decide +kernel
theorem fit_Body_borrow_4 : sm_fit (lt_R kBody_borrow) (lt_n kBody_borrow) (lt_fl kBody_borrow).1 (lt_fl kBody_borrow).2 (lt_r kBody_borrow) (lt_b kBody_borrow) (pc_Body_borrow) (pc_Body_borrow 4) (i_Body_borrow_4) = true := by decide +kernel
theorem fit_Body_borrow_5 : sm_fit (lt_R kBody_borrow) (lt_n kBody_borrow) (lt_fl kBody_borrow).1 (lt_fl kBody_borrow).2 (lt_r kBody_borrow) (lt_b kBody_borrow) (pc_Body_borrow) (pc_Body_borrow 5) (i_Body_borrow_5) = true := by decide +kernel
theorem fit_Body_borrow_6 : sm_fit (lt_R kBody_borrow) (lt_n kBody_borrow) (lt_fl kBody_borrow).1 (lt_fl kBody_borrow).2 (lt_r kBody_borrow) (lt_b kBody_borrow) (pc_Body_borrow) (pc_Body_borrow 6) (i_Body_borrow_6) = true := by decide +kernel
theorem fit_Body_vacate_0 : sm_fit (lt_R kBody_vacate) (lt_n kBody_vacate) (lt_fl kBody_vacate).1 (lt_fl kBody_vacate).2 (lt_r kBody_vacate) (lt_b kBody_vacate) (pc_Body_vacate) (pc_Body_vacate 0) (i_Body_vacate_0) = true := by decide +kernel
theorem fit_Body_vacate_1 : sm_fit (lt_R kBody_vacate) (lt_n kBody_vacate) (lt_fl kBody_vacate).1 (lt_fl kBody_vacate).2 (lt_r kBody_vacate) (lt_b kBody_vacate) (pc_Body_vacate) (pc_Body_vacate 1) (i_Body_vacate_1) = true := by decide +kernel
theorem fit_Body_vacate_2 : sm_fit (lt_R kBody_vacate) (lt_n kBody_vacate) (lt_fl kBody_vacate).1 (lt_fl kBody_vacate).2 (lt_r kBody_vacate) (lt_b kBody_vacate) (pc_Body_vacate) (pc_Body_vacate 2) (i_Body_vacate_2) = true := by decide +kernel
theorem fit_Body_vacate_3 : sm_fit (lt_R kBody_vacate) (lt_n kBody_vacate) (lt_fl kBody_vacate).1 (lt_fl kBody_vacate).2 (lt_r kBody_vacate) (lt_b kBody_vacate) (pc_Body_vacate) (pc_Body_vacate 3) (i_Body_vacate_3) = true := by decide +kernel
theorem fit_Body_clear_0 : sm_fit (lt_R kBody_clear) (lt_n kBody_clear) (lt_fl kBody_clear).1 (lt_fl kBody_clear).2 (lt_r kBody_clear) (lt_b kBody_clear) (pc_Body_clear) (pc_Body_clear 0) (i_Body_clear_0) = true := by decide +kernel
theorem fit_Body_clear_1 : sm_fit (lt_R kBody_clear) (lt_n kBody_clear) (lt_fl kBody_clear).1 (lt_fl kBody_clear).2 (lt_r kBody_clear) (lt_b kBody_clear) (pc_Body_clear) (pc_Body_clear 1) (i_Body_clear_1) = true := by decide +kernel
theorem fit_Body_clear_2 : sm_fit (lt_R kBody_clear) (lt_n kBody_clear) (lt_fl kBody_clear).1 (lt_fl kBody_clear).2 (lt_r kBody_clear) (lt_b kBody_clear) (pc_Body_clear) (pc_Body_clear 2) (i_Body_clear_2) = true := by decide +kernel
theorem fit_Body_clear_3 : sm_fit (lt_R kBody_clear) (lt_n kBody_clear) (lt_fl kBody_clear).1 (lt_fl kBody_clear).2 (lt_r kBody_clear) (lt_b kBody_clear) (pc_Body_clear) (pc_Body_clear 3) (i_Body_clear_3) = true := by decide +kernel
theorem fit_Body_endAll_0 : sm_fit (lt_R kBody_endAll) (lt_n kBody_endAll) (lt_fl kBody_endAll).1 (lt_fl kBody_endAll).2 (lt_r kBody_endAll) (lt_b kBody_endAll) (pc_Body_endAll) (pc_Body_endAll 0) (i_Body_endAll_0) = true := by decide +kernel
theorem fit_Body_endShares_0 : sm_fit (lt_R kBody_endShares) (lt_n kBody_endShares) (lt_fl kBody_endShares).1 (lt_fl kBody_endShares).2 (lt_r kBody_endShares) (lt_b kBody_endShares) (pc_Body_endShares) (pc_Body_endShares 0) (i_Body_endShares_0) = true := by decide +kernel
theorem fit_Body_endShares_1 : sm_fit (lt_R kBody_endShares) (lt_n kBody_endShares) (lt_fl kBody_endShares).1 (lt_fl kBody_endShares).2 (lt_r kBody_endShares) (lt_b kBody_endShares) (pc_Body_endShares) (pc_Body_endShares 1) (i_Body_endShares_1) = true := by decide +kernel
theorem fit_Body_endShares_2 : sm_fit (lt_R kBody_endShares) (lt_n kBody_endShares) (lt_fl kBody_endShares).1 (lt_fl kBody_endShares).2 (lt_r kBody_endShares) (lt_b kBody_endShares) (pc_Body_endShares) (pc_Body_endShares 2) (i_Body_endShares_2) = true := by decide +kernel
theorem fit_Body_endShares_3 : sm_fit (lt_R kBody_endShares) (lt_n kBody_endShares) (lt_fl kBody_endShares).1 (lt_fl kBody_endShares).2 (lt_r kBody_endShares) (lt_b kBody_endShares) (pc_Body_endShares) (pc_Body_endShares 3) (i_Body_endShares_3) = true := by decide +kernel
theorem fit_Body_endShares_4 : sm_fit (lt_R kBody_endShares) (lt_n kBody_endShares) (lt_fl kBody_endShares).1 (lt_fl kBody_endShares).2 (lt_r kBody_endShares) (lt_b kBody_endShares) (pc_Body_endShares) (pc_Body_endShares 4) (i_Body_endShares_4) = true := by decide +kernel
theorem fit_Body_endShares_5 : sm_fit (lt_R kBody_endShares) (lt_n kBody_endShares) (lt_fl kBody_endShares).1 (lt_fl kBody_endShares).2 (lt_r kBody_endShares) (lt_b kBody_endShares) (pc_Body_endShares) (pc_Body_endShares 5) (i_Body_endShares_5) = true := by decide +kernel
theorem fit_Body_endShares_6 : sm_fit (lt_R kBody_endShares) (lt_n kBody_endShares) (lt_fl kBody_endShares).1 (lt_fl kBody_endShares).2 (lt_r kBody_endShares) (lt_b kBody_endShares) (pc_Body_endShares) (pc_Body_endShares 6) (i_Body_endShares_6) = true := by decide +kernel
theorem fit_Body_endLoans_0 : sm_fit (lt_R kBody_endLoans) (lt_n kBody_endLoans) (lt_fl kBody_endLoans).1 (lt_fl kBody_endLoans).2 (lt_r kBody_endLoans) (lt_b kBody_endLoans) (pc_Body_endLoans) (pc_Body_endLoans 0) (i_Body_endLoans_0) = true := by decide +kernel
theorem fit_Body_endLoans_1 : sm_fit (lt_R kBody_endLoans) (lt_n kBody_endLoans) (lt_fl kBody_endLoans).1 (lt_fl kBody_endLoans).2 (lt_r kBody_endLoans) (lt_b kBody_endLoans) (pc_Body_endLoans) (pc_Body_endLoans 1) (i_Body_endLoans_1) = true := by decide +kernel
theorem fit_Body_endLoans_2 : sm_fit (lt_R kBody_endLoans) (lt_n kBody_endLoans) (lt_fl kBody_endLoans).1 (lt_fl kBody_endLoans).2 (lt_r kBody_endLoans) (lt_b kBody_endLoans) (pc_Body_endLoans) (pc_Body_endLoans 2) (i_Body_endLoans_2) = true := by decide +kernel
theorem fit_Body_endLoans_3 : sm_fit (lt_R kBody_endLoans) (lt_n kBody_endLoans) (lt_fl kBody_endLoans).1 (lt_fl kBody_endLoans).2 (lt_r kBody_endLoans) (lt_b kBody_endLoans) (pc_Body_endLoans) (pc_Body_endLoans 3) (i_Body_endLoans_3) = true := by decide +kernel
theorem fit_Body_endLoans_4 : sm_fit (lt_R kBody_endLoans) (lt_n kBody_endLoans) (lt_fl kBody_endLoans).1 (lt_fl kBody_endLoans).2 (lt_r kBody_endLoans) (lt_b kBody_endLoans) (pc_Body_endLoans) (pc_Body_endLoans 4) (i_Body_endLoans_4) = true := by decide +kernel
theorem fit_Body_endLoans_5 : sm_fit (lt_R kBody_endLoans) (lt_n kBody_endLoans) (lt_fl kBody_endLoans).1 (lt_fl kBody_endLoans).2 (lt_r kBody_endLoans) (lt_b kBody_endLoans) (pc_Body_endLoans) (pc_Body_endLoans 5) (i_Body_endLoans_5) = true := by decide +kernel
theorem fit_Body_endLoans_6 : sm_fit (lt_R kBody_endLoans) (lt_n kBody_endLoans) (lt_fl kBody_endLoans).1 (lt_fl kBody_endLoans).2 (lt_r kBody_endLoans) (lt_b kBody_endLoans) (pc_Body_endLoans) (pc_Body_endLoans 6) (i_Body_endLoans_6) = true := by decide +kernel
theorem fit_Body_endLoans_7 : sm_fit (lt_R kBody_endLoans) (lt_n kBody_endLoans) (lt_fl kBody_endLoans).1 (lt_fl kBody_endLoans).2 (lt_r kBody_endLoans) (lt_b kBody_endLoans) (pc_Body_endLoans) (pc_Body_endLoans 7) (i_Body_endLoans_7) = true := by decide +kernel
theorem fit_Body_die_0 : sm_fit (lt_R kBody_die) (lt_n kBody_die) (lt_fl kBody_die).1 (lt_fl kBody_die).2 (lt_r kBody_die) (lt_b kBody_die) (pc_Body_die) (pc_Body_die 0) (i_Body_die_0) = true := by decide +kernel
theorem fit_Body_finish_0 : sm_fit (lt_R kBody_finish) (lt_n kBody_finish) (lt_fl kBody_finish).1 (lt_fl kBody_finish).2 (lt_r kBody_finish) (lt_b kBody_finish) (pc_Body_finish) (pc_Body_finish 0) (i_Body_finish_0) = true := by decide +kernel
theorem fit_Body_dropOwned_0 : sm_fit (lt_R kBody_dropOwned) (lt_n kBody_dropOwned) (lt_fl kBody_dropOwned).1 (lt_fl kBody_dropOwned).2 (lt_r kBody_dropOwned) (lt_b kBody_dropOwned) (pc_Body_dropOwned) (pc_Body_dropOwned 0) (i_Body_dropOwned_0) = true := by decide +kernel
theorem fit_Body_dropOwned_1 : sm_fit (lt_R kBody_dropOwned) (lt_n kBody_dropOwned) (lt_fl kBody_dropOwned).1 (lt_fl kBody_dropOwned).2 (lt_r kBody_dropOwned) (lt_b kBody_dropOwned) (pc_Body_dropOwned) (pc_Body_dropOwned 1) (i_Body_dropOwned_1) = true := by decide +kernel
theorem fit_Body_dropOwned_2 : sm_fit (lt_R kBody_dropOwned) (lt_n kBody_dropOwned) (lt_fl kBody_dropOwned).1 (lt_fl kBody_dropOwned).2 (lt_r kBody_dropOwned) (lt_b kBody_dropOwned) (pc_Body_dropOwned) (pc_Body_dropOwned 2) (i_Body_dropOwned_2) = true := by decide +kernel
theorem fit_Body_dropOwned_3 : sm_fit (lt_R kBody_dropOwned) (lt_n kBody_dropOwned) (lt_fl kBody_dropOwned).1 (lt_fl kBody_dropOwned).2 (lt_r kBody_dropOwned) (lt_b kBody_dropOwned) (pc_Body_dropOwned) (pc_Body_dropOwned 3) (i_Body_dropOwned_3) = true := by decide +kernel
theorem fit_Body_dropOwned_4 : sm_fit (lt_R kBody_dropOwned) (lt_n kBody_dropOwned) (lt_fl kBody_dropOwned).1 (lt_fl kBody_dropOwned).2 (lt_r kBody_dropOwned) (lt_b kBody_dropOwned) (pc_Body_dropOwned) (pc_Body_dropOwned 4) (i_Body_dropOwned_4) = true := by decide +kernel
theorem fit_Body_dropOwned_5 : sm_fit (lt_R kBody_dropOwned) (lt_n kBody_dropOwned) (lt_fl kBody_dropOwned).1 (lt_fl kBody_dropOwned).2 (lt_r kBody_dropOwned) (lt_b kBody_dropOwned) (pc_Body_dropOwned) (pc_Body_dropOwned 5) (i_Body_dropOwned_5) = true := by decide +kernel
theorem fit_Body_latestOwner_0 : sm_fit (lt_R kBody_latestOwner) (lt_n kBody_latestOwner) (lt_fl kBody_latestOwner).1 (lt_fl kBody_latestOwner).2 (lt_r kBody_latestOwner) (lt_b kBody_latestOwner) (pc_Body_latestOwner) (pc_Body_latestOwner 0) (i_Body_latestOwner_0) = true := by decide +kernel
theorem fit_Body_latestOwner_1 : sm_fit (lt_R kBody_latestOwner) (lt_n kBody_latestOwner) (lt_fl kBody_latestOwner).1 (lt_fl kBody_latestOwner).2 (lt_r kBody_latestOwner) (lt_b kBody_latestOwner) (pc_Body_latestOwner) (pc_Body_latestOwner 1) (i_Body_latestOwner_1) = true := by decide +kernel
theorem fit_Body_latestOwner_2 : sm_fit (lt_R kBody_latestOwner) (lt_n kBody_latestOwner) (lt_fl kBody_latestOwner).1 (lt_fl kBody_latestOwner).2 (lt_r kBody_latestOwner) (lt_b kBody_latestOwner) (pc_Body_latestOwner) (pc_Body_latestOwner 2) (i_Body_latestOwner_2) = true := by decide +kernel
theorem fit_Body_latestOwner_3 : sm_fit (lt_R kBody_latestOwner) (lt_n kBody_latestOwner) (lt_fl kBody_latestOwner).1 (lt_fl kBody_latestOwner).2 (lt_r kBody_latestOwner) (lt_b kBody_latestOwner) (pc_Body_latestOwner) (pc_Body_latestOwner 3) (i_Body_latestOwner_3) = true := by decide +kernel
theorem fit_Body_latestOwner_4 : sm_fit (lt_R kBody_latestOwner) (lt_n kBody_latestOwner) (lt_fl kBody_latestOwner).1 (lt_fl kBody_latestOwner).2 (lt_r kBody_latestOwner) (lt_b kBody_latestOwner) (pc_Body_latestOwner) (pc_Body_latestOwner 4) (i_Body_latestOwner_4) = true := by decide +kernel
theorem fit_Body_latestOwner_5 : sm_fit (lt_R kBody_latestOwner) (lt_n kBody_latestOwner) (lt_fl kBody_latestOwner).1 (lt_fl kBody_latestOwner).2 (lt_r kBody_latestOwner) (lt_b kBody_latestOwner) (pc_Body_latestOwner) (pc_Body_latestOwner 5) (i_Body_latestOwner_5) = true := by decide +kernel
theorem fit_Body_latestOwner_6 : sm_fit (lt_R kBody_latestOwner) (lt_n kBody_latestOwner) (lt_fl kBody_latestOwner).1 (lt_fl kBody_latestOwner).2 (lt_r kBody_latestOwner) (lt_b kBody_latestOwner) (pc_Body_latestOwner) (pc_Body_latestOwner 6) (i_Body_latestOwner_6) = true := by decide +kernel
theorem fit_Body_latestOwner_7 : sm_fit (lt_R kBody_latestOwner) (lt_n kBody_latestOwner) (lt_fl kBody_latestOwner).1 (lt_fl kBody_latestOwner).2 (lt_r kBody_latestOwner) (lt_b kBody_latestOwner) (pc_Body_latestOwner) (pc_Body_latestOwner 7) (i_Body_latestOwner_7) = true := by decide +kernel
theorem fit_Body_latestOwner_8 : sm_fit (lt_R kBody_latestOwner) (lt_n kBody_latestOwner) (lt_fl kBody_latestOwner).1 (lt_fl kBody_latestOwner).2 (lt_r kBody_latestOwner) (lt_b kBody_latestOwner) (pc_Body_latestOwner) (pc_Body_latestOwner 8) (i_Body_latestOwner_8) = true := by decide +kernel
theorem fit_Body_latestOwner_9 : sm_fit (lt_R kBody_latestOwner) (lt_n kBody_latestOwner) (lt_fl kBody_latestOwner).1 (lt_fl kBody_latestOwner).2 (lt_r kBody_latestOwner) (lt_b kBody_latestOwner) (pc_Body_latestOwner) (pc_Body_latestOwner 9) (i_Body_latestOwner_9) = true := by decide +kernel
theorem fit_Body_latestOwner_10 : sm_fit (lt_R kBody_latestOwner) (lt_n kBody_latestOwner) (lt_fl kBody_latestOwner).1 (lt_fl kBody_latestOwner).2 (lt_r kBody_latestOwner) (lt_b kBody_latestOwner) (pc_Body_latestOwner) (pc_Body_latestOwner 10) (i_Body_latestOwner_10) = true := by decide +kernel
theorem fit_Body_latestOwner_11 : sm_fit (lt_R kBody_latestOwner) (lt_n kBody_latestOwner) (lt_fl kBody_latestOwner).1 (lt_fl kBody_latestOwner).2 (lt_r kBody_latestOwner) (lt_b kBody_latestOwner) (pc_Body_latestOwner) (pc_Body_latestOwner 11) (i_Body_latestOwner_11) = true := by decide +kernel
theorem fit_Body_latestOwner_12 : sm_fit (lt_R kBody_latestOwner) (lt_n kBody_latestOwner) (lt_fl kBody_latestOwner).1 (lt_fl kBody_latestOwner).2 (lt_r kBody_latestOwner) (lt_b kBody_latestOwner) (pc_Body_latestOwner) (pc_Body_latestOwner 12) (i_Body_latestOwner_12) = true := by decide +kernel
theorem fit_Channels_size_0 : sm_fit (lt_R kChannels_size) (lt_n kChannels_size) (lt_fl kChannels_size).1 (lt_fl kChannels_size).2 (lt_r kChannels_size) (lt_b kChannels_size) (pc_Channels_size) (pc_Channels_size 0) (i_Channels_size_0) = true := by decide +kernel
theorem fit_Channels_isFull_0 : sm_fit (lt_R kChannels_isFull) (lt_n kChannels_isFull) (lt_fl kChannels_isFull).1 (lt_fl kChannels_isFull).2 (lt_r kChannels_isFull) (lt_b kChannels_isFull) (pc_Channels_isFull) (pc_Channels_isFull 0) (i_Channels_isFull_0) = true := by decide +kernel
theorem fit_Channels_isFull_1 : sm_fit (lt_R kChannels_isFull) (lt_n kChannels_isFull) (lt_fl kChannels_isFull).1 (lt_fl kChannels_isFull).2 (lt_r kChannels_isFull) (lt_b kChannels_isFull) (pc_Channels_isFull) (pc_Channels_isFull 1) (i_Channels_isFull_1) = true := by decide +kernel
theorem fit_Channels_isFull_2 : sm_fit (lt_R kChannels_isFull) (lt_n kChannels_isFull) (lt_fl kChannels_isFull).1 (lt_fl kChannels_isFull).2 (lt_r kChannels_isFull) (lt_b kChannels_isFull) (pc_Channels_isFull) (pc_Channels_isFull 2) (i_Channels_isFull_2) = true := by decide +kernel
theorem fit_Channels_isFull_3 : sm_fit (lt_R kChannels_isFull) (lt_n kChannels_isFull) (lt_fl kChannels_isFull).1 (lt_fl kChannels_isFull).2 (lt_r kChannels_isFull) (lt_b kChannels_isFull) (pc_Channels_isFull) (pc_Channels_isFull 3) (i_Channels_isFull_3) = true := by decide +kernel
theorem fit_Channels_have_0 : sm_fit (lt_R kChannels_have) (lt_n kChannels_have) (lt_fl kChannels_have).1 (lt_fl kChannels_have).2 (lt_r kChannels_have) (lt_b kChannels_have) (pc_Channels_have) (pc_Channels_have 0) (i_Channels_have_0) = true := by decide +kernel
theorem fit_Channels_have_1 : sm_fit (lt_R kChannels_have) (lt_n kChannels_have) (lt_fl kChannels_have).1 (lt_fl kChannels_have).2 (lt_r kChannels_have) (lt_b kChannels_have) (pc_Channels_have) (pc_Channels_have 1) (i_Channels_have_1) = true := by decide +kernel
theorem fit_Channels_have_2 : sm_fit (lt_R kChannels_have) (lt_n kChannels_have) (lt_fl kChannels_have).1 (lt_fl kChannels_have).2 (lt_r kChannels_have) (lt_b kChannels_have) (pc_Channels_have) (pc_Channels_have 2) (i_Channels_have_2) = true := by decide +kernel
theorem fit_Channels_have_3 : sm_fit (lt_R kChannels_have) (lt_n kChannels_have) (lt_fl kChannels_have).1 (lt_fl kChannels_have).2 (lt_r kChannels_have) (lt_b kChannels_have) (pc_Channels_have) (pc_Channels_have 3) (i_Channels_have_3) = true := by decide +kernel
theorem fit_Channels_have_4 : sm_fit (lt_R kChannels_have) (lt_n kChannels_have) (lt_fl kChannels_have).1 (lt_fl kChannels_have).2 (lt_r kChannels_have) (lt_b kChannels_have) (pc_Channels_have) (pc_Channels_have 4) (i_Channels_have_4) = true := by decide +kernel
theorem fit_Channels_have_5 : sm_fit (lt_R kChannels_have) (lt_n kChannels_have) (lt_fl kChannels_have).1 (lt_fl kChannels_have).2 (lt_r kChannels_have) (lt_b kChannels_have) (pc_Channels_have) (pc_Channels_have 5) (i_Channels_have_5) = true := by decide +kernel
theorem fit_Channels_add_0 : sm_fit (lt_R kChannels_add) (lt_n kChannels_add) (lt_fl kChannels_add).1 (lt_fl kChannels_add).2 (lt_r kChannels_add) (lt_b kChannels_add) (pc_Channels_add) (pc_Channels_add 0) (i_Channels_add_0) = true := by decide +kernel
theorem fit_Channels_add_1 : sm_fit (lt_R kChannels_add) (lt_n kChannels_add) (lt_fl kChannels_add).1 (lt_fl kChannels_add).2 (lt_r kChannels_add) (lt_b kChannels_add) (pc_Channels_add) (pc_Channels_add 1) (i_Channels_add_1) = true := by decide +kernel
theorem fit_Channels_add_2 : sm_fit (lt_R kChannels_add) (lt_n kChannels_add) (lt_fl kChannels_add).1 (lt_fl kChannels_add).2 (lt_r kChannels_add) (lt_b kChannels_add) (pc_Channels_add) (pc_Channels_add 2) (i_Channels_add_2) = true := by decide +kernel
theorem fit_Channels_add_3 : sm_fit (lt_R kChannels_add) (lt_n kChannels_add) (lt_fl kChannels_add).1 (lt_fl kChannels_add).2 (lt_r kChannels_add) (lt_b kChannels_add) (pc_Channels_add) (pc_Channels_add 3) (i_Channels_add_3) = true := by decide +kernel
theorem fit_Channels_add_4 : sm_fit (lt_R kChannels_add) (lt_n kChannels_add) (lt_fl kChannels_add).1 (lt_fl kChannels_add).2 (lt_r kChannels_add) (lt_b kChannels_add) (pc_Channels_add) (pc_Channels_add 4) (i_Channels_add_4) = true := by decide +kernel
theorem fit_Channels_add_5 : sm_fit (lt_R kChannels_add) (lt_n kChannels_add) (lt_fl kChannels_add).1 (lt_fl kChannels_add).2 (lt_r kChannels_add) (lt_b kChannels_add) (pc_Channels_add) (pc_Channels_add 5) (i_Channels_add_5) = true := by decide +kernel
theorem fit_Channels_add_6 : sm_fit (lt_R kChannels_add) (lt_n kChannels_add) (lt_fl kChannels_add).1 (lt_fl kChannels_add).2 (lt_r kChannels_add) (lt_b kChannels_add) (pc_Channels_add) (pc_Channels_add 6) (i_Channels_add_6) = true := by decide +kernel
theorem fit_Channels_add_7 : sm_fit (lt_R kChannels_add) (lt_n kChannels_add) (lt_fl kChannels_add).1 (lt_fl kChannels_add).2 (lt_r kChannels_add) (lt_b kChannels_add) (pc_Channels_add) (pc_Channels_add 7) (i_Channels_add_7) = true := by decide +kernel
theorem fit_Channels_add_8 : sm_fit (lt_R kChannels_add) (lt_n kChannels_add) (lt_fl kChannels_add).1 (lt_fl kChannels_add).2 (lt_r kChannels_add) (lt_b kChannels_add) (pc_Channels_add) (pc_Channels_add 8) (i_Channels_add_8) = true := by decide +kernel
theorem fit_Channels_turned_0 : sm_fit (lt_R kChannels_turned) (lt_n kChannels_turned) (lt_fl kChannels_turned).1 (lt_fl kChannels_turned).2 (lt_r kChannels_turned) (lt_b kChannels_turned) (pc_Channels_turned) (pc_Channels_turned 0) (i_Channels_turned_0) = true := by decide +kernel
theorem fit_Channels_turned_1 : sm_fit (lt_R kChannels_turned) (lt_n kChannels_turned) (lt_fl kChannels_turned).1 (lt_fl kChannels_turned).2 (lt_r kChannels_turned) (lt_b kChannels_turned) (pc_Channels_turned) (pc_Channels_turned 1) (i_Channels_turned_1) = true := by decide +kernel
theorem fit_Channels_turned_2 : sm_fit (lt_R kChannels_turned) (lt_n kChannels_turned) (lt_fl kChannels_turned).1 (lt_fl kChannels_turned).2 (lt_r kChannels_turned) (lt_b kChannels_turned) (pc_Channels_turned) (pc_Channels_turned 2) (i_Channels_turned_2) = true := by decide +kernel
theorem fit_Channels_turned_3 : sm_fit (lt_R kChannels_turned) (lt_n kChannels_turned) (lt_fl kChannels_turned).1 (lt_fl kChannels_turned).2 (lt_r kChannels_turned) (lt_b kChannels_turned) (pc_Channels_turned) (pc_Channels_turned 3) (i_Channels_turned_3) = true := by decide +kernel
theorem fit_Channels_turned_4 : sm_fit (lt_R kChannels_turned) (lt_n kChannels_turned) (lt_fl kChannels_turned).1 (lt_fl kChannels_turned).2 (lt_r kChannels_turned) (lt_b kChannels_turned) (pc_Channels_turned) (pc_Channels_turned 4) (i_Channels_turned_4) = true := by decide +kernel
theorem fit_Channels_turned_5 : sm_fit (lt_R kChannels_turned) (lt_n kChannels_turned) (lt_fl kChannels_turned).1 (lt_fl kChannels_turned).2 (lt_r kChannels_turned) (lt_b kChannels_turned) (pc_Channels_turned) (pc_Channels_turned 5) (i_Channels_turned_5) = true := by decide +kernel
theorem fit_Channels_sideOf_0 : sm_fit (lt_R kChannels_sideOf) (lt_n kChannels_sideOf) (lt_fl kChannels_sideOf).1 (lt_fl kChannels_sideOf).2 (lt_r kChannels_sideOf) (lt_b kChannels_sideOf) (pc_Channels_sideOf) (pc_Channels_sideOf 0) (i_Channels_sideOf_0) = true := by decide +kernel
theorem fit_Channels_sideOf_1 : sm_fit (lt_R kChannels_sideOf) (lt_n kChannels_sideOf) (lt_fl kChannels_sideOf).1 (lt_fl kChannels_sideOf).2 (lt_r kChannels_sideOf) (lt_b kChannels_sideOf) (pc_Channels_sideOf) (pc_Channels_sideOf 1) (i_Channels_sideOf_1) = true := by decide +kernel
theorem fit_Channels_sideOf_2 : sm_fit (lt_R kChannels_sideOf) (lt_n kChannels_sideOf) (lt_fl kChannels_sideOf).1 (lt_fl kChannels_sideOf).2 (lt_r kChannels_sideOf) (lt_b kChannels_sideOf) (pc_Channels_sideOf) (pc_Channels_sideOf 2) (i_Channels_sideOf_2) = true := by decide +kernel
theorem fit_Channels_sideOf_3 : sm_fit (lt_R kChannels_sideOf) (lt_n kChannels_sideOf) (lt_fl kChannels_sideOf).1 (lt_fl kChannels_sideOf).2 (lt_r kChannels_sideOf) (lt_b kChannels_sideOf) (pc_Channels_sideOf) (pc_Channels_sideOf 3) (i_Channels_sideOf_3) = true := by decide +kernel
theorem fit_Channels_sideOf_4 : sm_fit (lt_R kChannels_sideOf) (lt_n kChannels_sideOf) (lt_fl kChannels_sideOf).1 (lt_fl kChannels_sideOf).2 (lt_r kChannels_sideOf) (lt_b kChannels_sideOf) (pc_Channels_sideOf) (pc_Channels_sideOf 4) (i_Channels_sideOf_4) = true := by decide +kernel
theorem fit_Channels_sideOf_5 : sm_fit (lt_R kChannels_sideOf) (lt_n kChannels_sideOf) (lt_fl kChannels_sideOf).1 (lt_fl kChannels_sideOf).2 (lt_r kChannels_sideOf) (lt_b kChannels_sideOf) (pc_Channels_sideOf) (pc_Channels_sideOf 5) (i_Channels_sideOf_5) = true := by decide +kernel
theorem fit_Channels_sideOf_6 : sm_fit (lt_R kChannels_sideOf) (lt_n kChannels_sideOf) (lt_fl kChannels_sideOf).1 (lt_fl kChannels_sideOf).2 (lt_r kChannels_sideOf) (lt_b kChannels_sideOf) (pc_Channels_sideOf) (pc_Channels_sideOf 6) (i_Channels_sideOf_6) = true := by decide +kernel
theorem fit_Channels_sideOf_7 : sm_fit (lt_R kChannels_sideOf) (lt_n kChannels_sideOf) (lt_fl kChannels_sideOf).1 (lt_fl kChannels_sideOf).2 (lt_r kChannels_sideOf) (lt_b kChannels_sideOf) (pc_Channels_sideOf) (pc_Channels_sideOf 7) (i_Channels_sideOf_7) = true := by decide +kernel
theorem fit_Channels_sideOf_8 : sm_fit (lt_R kChannels_sideOf) (lt_n kChannels_sideOf) (lt_fl kChannels_sideOf).1 (lt_fl kChannels_sideOf).2 (lt_r kChannels_sideOf) (lt_b kChannels_sideOf) (pc_Channels_sideOf) (pc_Channels_sideOf 8) (i_Channels_sideOf_8) = true := by decide +kernel
theorem fit_Channels_beyond_0 : sm_fit (lt_R kChannels_beyond) (lt_n kChannels_beyond) (lt_fl kChannels_beyond).1 (lt_fl kChannels_beyond).2 (lt_r kChannels_beyond) (lt_b kChannels_beyond) (pc_Channels_beyond) (pc_Channels_beyond 0) (i_Channels_beyond_0) = true := by decide +kernel
theorem fit_Channels_beyond_1 : sm_fit (lt_R kChannels_beyond) (lt_n kChannels_beyond) (lt_fl kChannels_beyond).1 (lt_fl kChannels_beyond).2 (lt_r kChannels_beyond) (lt_b kChannels_beyond) (pc_Channels_beyond) (pc_Channels_beyond 1) (i_Channels_beyond_1) = true := by decide +kernel
theorem fit_Channels_beyond_2 : sm_fit (lt_R kChannels_beyond) (lt_n kChannels_beyond) (lt_fl kChannels_beyond).1 (lt_fl kChannels_beyond).2 (lt_r kChannels_beyond) (lt_b kChannels_beyond) (pc_Channels_beyond) (pc_Channels_beyond 2) (i_Channels_beyond_2) = true := by decide +kernel
theorem fit_Channels_beyond_3 : sm_fit (lt_R kChannels_beyond) (lt_n kChannels_beyond) (lt_fl kChannels_beyond).1 (lt_fl kChannels_beyond).2 (lt_r kChannels_beyond) (lt_b kChannels_beyond) (pc_Channels_beyond) (pc_Channels_beyond 3) (i_Channels_beyond_3) = true := by decide +kernel
theorem fit_Channels_beyond_4 : sm_fit (lt_R kChannels_beyond) (lt_n kChannels_beyond) (lt_fl kChannels_beyond).1 (lt_fl kChannels_beyond).2 (lt_r kChannels_beyond) (lt_b kChannels_beyond) (pc_Channels_beyond) (pc_Channels_beyond 4) (i_Channels_beyond_4) = true := by decide +kernel
theorem fit_Channels_beyond_5 : sm_fit (lt_R kChannels_beyond) (lt_n kChannels_beyond) (lt_fl kChannels_beyond).1 (lt_fl kChannels_beyond).2 (lt_r kChannels_beyond) (lt_b kChannels_beyond) (pc_Channels_beyond) (pc_Channels_beyond 5) (i_Channels_beyond_5) = true := by decide +kernel
theorem fit_Channels_askedOf_0 : sm_fit (lt_R kChannels_askedOf) (lt_n kChannels_askedOf) (lt_fl kChannels_askedOf).1 (lt_fl kChannels_askedOf).2 (lt_r kChannels_askedOf) (lt_b kChannels_askedOf) (pc_Channels_askedOf) (pc_Channels_askedOf 0) (i_Channels_askedOf_0) = true := by decide +kernel
theorem fit_Channels_askedOf_1 : sm_fit (lt_R kChannels_askedOf) (lt_n kChannels_askedOf) (lt_fl kChannels_askedOf).1 (lt_fl kChannels_askedOf).2 (lt_r kChannels_askedOf) (lt_b kChannels_askedOf) (pc_Channels_askedOf) (pc_Channels_askedOf 1) (i_Channels_askedOf_1) = true := by decide +kernel
theorem fit_Channels_askedOf_2 : sm_fit (lt_R kChannels_askedOf) (lt_n kChannels_askedOf) (lt_fl kChannels_askedOf).1 (lt_fl kChannels_askedOf).2 (lt_r kChannels_askedOf) (lt_b kChannels_askedOf) (pc_Channels_askedOf) (pc_Channels_askedOf 2) (i_Channels_askedOf_2) = true := by decide +kernel
theorem fit_Channels_askedOf_3 : sm_fit (lt_R kChannels_askedOf) (lt_n kChannels_askedOf) (lt_fl kChannels_askedOf).1 (lt_fl kChannels_askedOf).2 (lt_r kChannels_askedOf) (lt_b kChannels_askedOf) (pc_Channels_askedOf) (pc_Channels_askedOf 3) (i_Channels_askedOf_3) = true := by decide +kernel
theorem fit_Channels_askedOf_4 : sm_fit (lt_R kChannels_askedOf) (lt_n kChannels_askedOf) (lt_fl kChannels_askedOf).1 (lt_fl kChannels_askedOf).2 (lt_r kChannels_askedOf) (lt_b kChannels_askedOf) (pc_Channels_askedOf) (pc_Channels_askedOf 4) (i_Channels_askedOf_4) = true := by decide +kernel
theorem fit_Channels_askedOf_5 : sm_fit (lt_R kChannels_askedOf) (lt_n kChannels_askedOf) (lt_fl kChannels_askedOf).1 (lt_fl kChannels_askedOf).2 (lt_r kChannels_askedOf) (lt_b kChannels_askedOf) (pc_Channels_askedOf) (pc_Channels_askedOf 5) (i_Channels_askedOf_5) = true := by decide +kernel
theorem fit_Channels_askedOf_6 : sm_fit (lt_R kChannels_askedOf) (lt_n kChannels_askedOf) (lt_fl kChannels_askedOf).1 (lt_fl kChannels_askedOf).2 (lt_r kChannels_askedOf) (lt_b kChannels_askedOf) (pc_Channels_askedOf) (pc_Channels_askedOf 6) (i_Channels_askedOf_6) = true := by decide +kernel
theorem fit_Channels_askedOf_7 : sm_fit (lt_R kChannels_askedOf) (lt_n kChannels_askedOf) (lt_fl kChannels_askedOf).1 (lt_fl kChannels_askedOf).2 (lt_r kChannels_askedOf) (lt_b kChannels_askedOf) (pc_Channels_askedOf) (pc_Channels_askedOf 7) (i_Channels_askedOf_7) = true := by decide +kernel
theorem fit_Channels_askedOf_8 : sm_fit (lt_R kChannels_askedOf) (lt_n kChannels_askedOf) (lt_fl kChannels_askedOf).1 (lt_fl kChannels_askedOf).2 (lt_r kChannels_askedOf) (lt_b kChannels_askedOf) (pc_Channels_askedOf) (pc_Channels_askedOf 8) (i_Channels_askedOf_8) = true := by decide +kernel
theorem fit_Channels_askedOf_9 : sm_fit (lt_R kChannels_askedOf) (lt_n kChannels_askedOf) (lt_fl kChannels_askedOf).1 (lt_fl kChannels_askedOf).2 (lt_r kChannels_askedOf) (lt_b kChannels_askedOf) (pc_Channels_askedOf) (pc_Channels_askedOf 9) (i_Channels_askedOf_9) = true := by decide +kernel
theorem fit_Channels_askedOf_10 : sm_fit (lt_R kChannels_askedOf) (lt_n kChannels_askedOf) (lt_fl kChannels_askedOf).1 (lt_fl kChannels_askedOf).2 (lt_r kChannels_askedOf) (lt_b kChannels_askedOf) (pc_Channels_askedOf) (pc_Channels_askedOf 10) (i_Channels_askedOf_10) = true := by decide +kernel
theorem fit_Channels_askedOf_11 : sm_fit (lt_R kChannels_askedOf) (lt_n kChannels_askedOf) (lt_fl kChannels_askedOf).1 (lt_fl kChannels_askedOf).2 (lt_r kChannels_askedOf) (lt_b kChannels_askedOf) (pc_Channels_askedOf) (pc_Channels_askedOf 11) (i_Channels_askedOf_11) = true := by decide +kernel
theorem fit_Channels_suit_0 : sm_fit (lt_R kChannels_suit) (lt_n kChannels_suit) (lt_fl kChannels_suit).1 (lt_fl kChannels_suit).2 (lt_r kChannels_suit) (lt_b kChannels_suit) (pc_Channels_suit) (pc_Channels_suit 0) (i_Channels_suit_0) = true := by decide +kernel
theorem fit_Channels_suit_1 : sm_fit (lt_R kChannels_suit) (lt_n kChannels_suit) (lt_fl kChannels_suit).1 (lt_fl kChannels_suit).2 (lt_r kChannels_suit) (lt_b kChannels_suit) (pc_Channels_suit) (pc_Channels_suit 1) (i_Channels_suit_1) = true := by decide +kernel
theorem fit_Channels_suit_2 : sm_fit (lt_R kChannels_suit) (lt_n kChannels_suit) (lt_fl kChannels_suit).1 (lt_fl kChannels_suit).2 (lt_r kChannels_suit) (lt_b kChannels_suit) (pc_Channels_suit) (pc_Channels_suit 2) (i_Channels_suit_2) = true := by decide +kernel
theorem fit_Channels_suit_3 : sm_fit (lt_R kChannels_suit) (lt_n kChannels_suit) (lt_fl kChannels_suit).1 (lt_fl kChannels_suit).2 (lt_r kChannels_suit) (lt_b kChannels_suit) (pc_Channels_suit) (pc_Channels_suit 3) (i_Channels_suit_3) = true := by decide +kernel
theorem fit_Channels_suit_4 : sm_fit (lt_R kChannels_suit) (lt_n kChannels_suit) (lt_fl kChannels_suit).1 (lt_fl kChannels_suit).2 (lt_r kChannels_suit) (lt_b kChannels_suit) (pc_Channels_suit) (pc_Channels_suit 4) (i_Channels_suit_4) = true := by decide +kernel
theorem fit_Channels_kindAt_0 : sm_fit (lt_R kChannels_kindAt) (lt_n kChannels_kindAt) (lt_fl kChannels_kindAt).1 (lt_fl kChannels_kindAt).2 (lt_r kChannels_kindAt) (lt_b kChannels_kindAt) (pc_Channels_kindAt) (pc_Channels_kindAt 0) (i_Channels_kindAt_0) = true := by decide +kernel
theorem fit_Channels_kindAt_1 : sm_fit (lt_R kChannels_kindAt) (lt_n kChannels_kindAt) (lt_fl kChannels_kindAt).1 (lt_fl kChannels_kindAt).2 (lt_r kChannels_kindAt) (lt_b kChannels_kindAt) (pc_Channels_kindAt) (pc_Channels_kindAt 1) (i_Channels_kindAt_1) = true := by decide +kernel
theorem fit_Channels_kindAt_2 : sm_fit (lt_R kChannels_kindAt) (lt_n kChannels_kindAt) (lt_fl kChannels_kindAt).1 (lt_fl kChannels_kindAt).2 (lt_r kChannels_kindAt) (lt_b kChannels_kindAt) (pc_Channels_kindAt) (pc_Channels_kindAt 2) (i_Channels_kindAt_2) = true := by decide +kernel
theorem fit_Channels_kindAt_3 : sm_fit (lt_R kChannels_kindAt) (lt_n kChannels_kindAt) (lt_fl kChannels_kindAt).1 (lt_fl kChannels_kindAt).2 (lt_r kChannels_kindAt) (lt_b kChannels_kindAt) (pc_Channels_kindAt) (pc_Channels_kindAt 3) (i_Channels_kindAt_3) = true := by decide +kernel
theorem fit_Channels_kindAt_4 : sm_fit (lt_R kChannels_kindAt) (lt_n kChannels_kindAt) (lt_fl kChannels_kindAt).1 (lt_fl kChannels_kindAt).2 (lt_r kChannels_kindAt) (lt_b kChannels_kindAt) (pc_Channels_kindAt) (pc_Channels_kindAt 4) (i_Channels_kindAt_4) = true := by decide +kernel
theorem fit_Channels_kindAt_5 : sm_fit (lt_R kChannels_kindAt) (lt_n kChannels_kindAt) (lt_fl kChannels_kindAt).1 (lt_fl kChannels_kindAt).2 (lt_r kChannels_kindAt) (lt_b kChannels_kindAt) (pc_Channels_kindAt) (pc_Channels_kindAt 5) (i_Channels_kindAt_5) = true := by decide +kernel
theorem fit_Channels_kindAt_6 : sm_fit (lt_R kChannels_kindAt) (lt_n kChannels_kindAt) (lt_fl kChannels_kindAt).1 (lt_fl kChannels_kindAt).2 (lt_r kChannels_kindAt) (lt_b kChannels_kindAt) (pc_Channels_kindAt) (pc_Channels_kindAt 6) (i_Channels_kindAt_6) = true := by decide +kernel
theorem fit_Channels_nextAt_0 : sm_fit (lt_R kChannels_nextAt) (lt_n kChannels_nextAt) (lt_fl kChannels_nextAt).1 (lt_fl kChannels_nextAt).2 (lt_r kChannels_nextAt) (lt_b kChannels_nextAt) (pc_Channels_nextAt) (pc_Channels_nextAt 0) (i_Channels_nextAt_0) = true := by decide +kernel
theorem fit_Channels_nextAt_1 : sm_fit (lt_R kChannels_nextAt) (lt_n kChannels_nextAt) (lt_fl kChannels_nextAt).1 (lt_fl kChannels_nextAt).2 (lt_r kChannels_nextAt) (lt_b kChannels_nextAt) (pc_Channels_nextAt) (pc_Channels_nextAt 1) (i_Channels_nextAt_1) = true := by decide +kernel
theorem fit_Channels_nextAt_2 : sm_fit (lt_R kChannels_nextAt) (lt_n kChannels_nextAt) (lt_fl kChannels_nextAt).1 (lt_fl kChannels_nextAt).2 (lt_r kChannels_nextAt) (lt_b kChannels_nextAt) (pc_Channels_nextAt) (pc_Channels_nextAt 2) (i_Channels_nextAt_2) = true := by decide +kernel
theorem fit_Channels_nextAt_3 : sm_fit (lt_R kChannels_nextAt) (lt_n kChannels_nextAt) (lt_fl kChannels_nextAt).1 (lt_fl kChannels_nextAt).2 (lt_r kChannels_nextAt) (lt_b kChannels_nextAt) (pc_Channels_nextAt) (pc_Channels_nextAt 3) (i_Channels_nextAt_3) = true := by decide +kernel
theorem fit_Channels_nextAt_4 : sm_fit (lt_R kChannels_nextAt) (lt_n kChannels_nextAt) (lt_fl kChannels_nextAt).1 (lt_fl kChannels_nextAt).2 (lt_r kChannels_nextAt) (lt_b kChannels_nextAt) (pc_Channels_nextAt) (pc_Channels_nextAt 4) (i_Channels_nextAt_4) = true := by decide +kernel
theorem fit_Channels_nextAt_5 : sm_fit (lt_R kChannels_nextAt) (lt_n kChannels_nextAt) (lt_fl kChannels_nextAt).1 (lt_fl kChannels_nextAt).2 (lt_r kChannels_nextAt) (lt_b kChannels_nextAt) (pc_Channels_nextAt) (pc_Channels_nextAt 5) (i_Channels_nextAt_5) = true := by decide +kernel
theorem fit_Channels_nextAt_6 : sm_fit (lt_R kChannels_nextAt) (lt_n kChannels_nextAt) (lt_fl kChannels_nextAt).1 (lt_fl kChannels_nextAt).2 (lt_r kChannels_nextAt) (lt_b kChannels_nextAt) (pc_Channels_nextAt) (pc_Channels_nextAt 6) (i_Channels_nextAt_6) = true := by decide +kernel
theorem fit_Channels_nextAt_7 : sm_fit (lt_R kChannels_nextAt) (lt_n kChannels_nextAt) (lt_fl kChannels_nextAt).1 (lt_fl kChannels_nextAt).2 (lt_r kChannels_nextAt) (lt_b kChannels_nextAt) (pc_Channels_nextAt) (pc_Channels_nextAt 7) (i_Channels_nextAt_7) = true := by decide +kernel
theorem fit_Channels_nextAt_8 : sm_fit (lt_R kChannels_nextAt) (lt_n kChannels_nextAt) (lt_fl kChannels_nextAt).1 (lt_fl kChannels_nextAt).2 (lt_r kChannels_nextAt) (lt_b kChannels_nextAt) (pc_Channels_nextAt) (pc_Channels_nextAt 8) (i_Channels_nextAt_8) = true := by decide +kernel
theorem fit_Channels_nextAt_9 : sm_fit (lt_R kChannels_nextAt) (lt_n kChannels_nextAt) (lt_fl kChannels_nextAt).1 (lt_fl kChannels_nextAt).2 (lt_r kChannels_nextAt) (lt_b kChannels_nextAt) (pc_Channels_nextAt) (pc_Channels_nextAt 9) (i_Channels_nextAt_9) = true := by decide +kernel
theorem fit_Channels_nextAt_10 : sm_fit (lt_R kChannels_nextAt) (lt_n kChannels_nextAt) (lt_fl kChannels_nextAt).1 (lt_fl kChannels_nextAt).2 (lt_r kChannels_nextAt) (lt_b kChannels_nextAt) (pc_Channels_nextAt) (pc_Channels_nextAt 10) (i_Channels_nextAt_10) = true := by decide +kernel
theorem fit_Channels_nextAt_11 : sm_fit (lt_R kChannels_nextAt) (lt_n kChannels_nextAt) (lt_fl kChannels_nextAt).1 (lt_fl kChannels_nextAt).2 (lt_r kChannels_nextAt) (lt_b kChannels_nextAt) (pc_Channels_nextAt) (pc_Channels_nextAt 11) (i_Channels_nextAt_11) = true := by decide +kernel
theorem fit_Code_allows_0 : sm_fit (lt_R kCode_allows) (lt_n kCode_allows) (lt_fl kCode_allows).1 (lt_fl kCode_allows).2 (lt_r kCode_allows) (lt_b kCode_allows) (pc_Code_allows) (pc_Code_allows 0) (i_Code_allows_0) = true := by decide +kernel
theorem fit_Code_allows_1 : sm_fit (lt_R kCode_allows) (lt_n kCode_allows) (lt_fl kCode_allows).1 (lt_fl kCode_allows).2 (lt_r kCode_allows) (lt_b kCode_allows) (pc_Code_allows) (pc_Code_allows 1) (i_Code_allows_1) = true := by decide +kernel
theorem fit_Code_allows_2 : sm_fit (lt_R kCode_allows) (lt_n kCode_allows) (lt_fl kCode_allows).1 (lt_fl kCode_allows).2 (lt_r kCode_allows) (lt_b kCode_allows) (pc_Code_allows) (pc_Code_allows 2) (i_Code_allows_2) = true := by decide +kernel
theorem fit_Code_allows_3 : sm_fit (lt_R kCode_allows) (lt_n kCode_allows) (lt_fl kCode_allows).1 (lt_fl kCode_allows).2 (lt_r kCode_allows) (lt_b kCode_allows) (pc_Code_allows) (pc_Code_allows 3) (i_Code_allows_3) = true := by decide +kernel
theorem fit_Code_allows_4 : sm_fit (lt_R kCode_allows) (lt_n kCode_allows) (lt_fl kCode_allows).1 (lt_fl kCode_allows).2 (lt_r kCode_allows) (lt_b kCode_allows) (pc_Code_allows) (pc_Code_allows 4) (i_Code_allows_4) = true := by decide +kernel
theorem fit_Code_allows_5 : sm_fit (lt_R kCode_allows) (lt_n kCode_allows) (lt_fl kCode_allows).1 (lt_fl kCode_allows).2 (lt_r kCode_allows) (lt_b kCode_allows) (pc_Code_allows) (pc_Code_allows 5) (i_Code_allows_5) = true := by decide +kernel
theorem fit_Code_allows_6 : sm_fit (lt_R kCode_allows) (lt_n kCode_allows) (lt_fl kCode_allows).1 (lt_fl kCode_allows).2 (lt_r kCode_allows) (lt_b kCode_allows) (pc_Code_allows) (pc_Code_allows 6) (i_Code_allows_6) = true := by decide +kernel
theorem fit_Code_allows_7 : sm_fit (lt_R kCode_allows) (lt_n kCode_allows) (lt_fl kCode_allows).1 (lt_fl kCode_allows).2 (lt_r kCode_allows) (lt_b kCode_allows) (pc_Code_allows) (pc_Code_allows 7) (i_Code_allows_7) = true := by decide +kernel
theorem fit_Code_allows_8 : sm_fit (lt_R kCode_allows) (lt_n kCode_allows) (lt_fl kCode_allows).1 (lt_fl kCode_allows).2 (lt_r kCode_allows) (lt_b kCode_allows) (pc_Code_allows) (pc_Code_allows 8) (i_Code_allows_8) = true := by decide +kernel
theorem fit_Code_allows_9 : sm_fit (lt_R kCode_allows) (lt_n kCode_allows) (lt_fl kCode_allows).1 (lt_fl kCode_allows).2 (lt_r kCode_allows) (lt_b kCode_allows) (pc_Code_allows) (pc_Code_allows 9) (i_Code_allows_9) = true := by decide +kernel
theorem fit_Code_allows_10 : sm_fit (lt_R kCode_allows) (lt_n kCode_allows) (lt_fl kCode_allows).1 (lt_fl kCode_allows).2 (lt_r kCode_allows) (lt_b kCode_allows) (pc_Code_allows) (pc_Code_allows 10) (i_Code_allows_10) = true := by decide +kernel
theorem fit_Code_allows_11 : sm_fit (lt_R kCode_allows) (lt_n kCode_allows) (lt_fl kCode_allows).1 (lt_fl kCode_allows).2 (lt_r kCode_allows) (lt_b kCode_allows) (pc_Code_allows) (pc_Code_allows 11) (i_Code_allows_11) = true := by decide +kernel
theorem fit_Code_allows_12 : sm_fit (lt_R kCode_allows) (lt_n kCode_allows) (lt_fl kCode_allows).1 (lt_fl kCode_allows).2 (lt_r kCode_allows) (lt_b kCode_allows) (pc_Code_allows) (pc_Code_allows 12) (i_Code_allows_12) = true := by decide +kernel
theorem fit_Code_allows_13 : sm_fit (lt_R kCode_allows) (lt_n kCode_allows) (lt_fl kCode_allows).1 (lt_fl kCode_allows).2 (lt_r kCode_allows) (lt_b kCode_allows) (pc_Code_allows) (pc_Code_allows 13) (i_Code_allows_13) = true := by decide +kernel
theorem fit_Code_allows_14 : sm_fit (lt_R kCode_allows) (lt_n kCode_allows) (lt_fl kCode_allows).1 (lt_fl kCode_allows).2 (lt_r kCode_allows) (lt_b kCode_allows) (pc_Code_allows) (pc_Code_allows 14) (i_Code_allows_14) = true := by decide +kernel
theorem fit_Code_allows_15 : sm_fit (lt_R kCode_allows) (lt_n kCode_allows) (lt_fl kCode_allows).1 (lt_fl kCode_allows).2 (lt_r kCode_allows) (lt_b kCode_allows) (pc_Code_allows) (pc_Code_allows 15) (i_Code_allows_15) = true := by decide +kernel
theorem fit_Code_allows_16 : sm_fit (lt_R kCode_allows) (lt_n kCode_allows) (lt_fl kCode_allows).1 (lt_fl kCode_allows).2 (lt_r kCode_allows) (lt_b kCode_allows) (pc_Code_allows) (pc_Code_allows 16) (i_Code_allows_16) = true := by decide +kernel
theorem fit_Code_allows_17 : sm_fit (lt_R kCode_allows) (lt_n kCode_allows) (lt_fl kCode_allows).1 (lt_fl kCode_allows).2 (lt_r kCode_allows) (lt_b kCode_allows) (pc_Code_allows) (pc_Code_allows 17) (i_Code_allows_17) = true := by decide +kernel
theorem fit_Code_allows_18 : sm_fit (lt_R kCode_allows) (lt_n kCode_allows) (lt_fl kCode_allows).1 (lt_fl kCode_allows).2 (lt_r kCode_allows) (lt_b kCode_allows) (pc_Code_allows) (pc_Code_allows 18) (i_Code_allows_18) = true := by decide +kernel
theorem fit_Code_allows_19 : sm_fit (lt_R kCode_allows) (lt_n kCode_allows) (lt_fl kCode_allows).1 (lt_fl kCode_allows).2 (lt_r kCode_allows) (lt_b kCode_allows) (pc_Code_allows) (pc_Code_allows 19) (i_Code_allows_19) = true := by decide +kernel
theorem fit_Code_allows_20 : sm_fit (lt_R kCode_allows) (lt_n kCode_allows) (lt_fl kCode_allows).1 (lt_fl kCode_allows).2 (lt_r kCode_allows) (lt_b kCode_allows) (pc_Code_allows) (pc_Code_allows 20) (i_Code_allows_20) = true := by decide +kernel
theorem fit_Code_allows_21 : sm_fit (lt_R kCode_allows) (lt_n kCode_allows) (lt_fl kCode_allows).1 (lt_fl kCode_allows).2 (lt_r kCode_allows) (lt_b kCode_allows) (pc_Code_allows) (pc_Code_allows 21) (i_Code_allows_21) = true := by decide +kernel
theorem fit_Code_allows_22 : sm_fit (lt_R kCode_allows) (lt_n kCode_allows) (lt_fl kCode_allows).1 (lt_fl kCode_allows).2 (lt_r kCode_allows) (lt_b kCode_allows) (pc_Code_allows) (pc_Code_allows 22) (i_Code_allows_22) = true := by decide +kernel
theorem fit_Code_allows_23 : sm_fit (lt_R kCode_allows) (lt_n kCode_allows) (lt_fl kCode_allows).1 (lt_fl kCode_allows).2 (lt_r kCode_allows) (lt_b kCode_allows) (pc_Code_allows) (pc_Code_allows 23) (i_Code_allows_23) = true := by decide +kernel
theorem fit_Code_allows_24 : sm_fit (lt_R kCode_allows) (lt_n kCode_allows) (lt_fl kCode_allows).1 (lt_fl kCode_allows).2 (lt_r kCode_allows) (lt_b kCode_allows) (pc_Code_allows) (pc_Code_allows 24) (i_Code_allows_24) = true := by decide +kernel
theorem fit_Code_allows_25 : sm_fit (lt_R kCode_allows) (lt_n kCode_allows) (lt_fl kCode_allows).1 (lt_fl kCode_allows).2 (lt_r kCode_allows) (lt_b kCode_allows) (pc_Code_allows) (pc_Code_allows 25) (i_Code_allows_25) = true := by decide +kernel
theorem fit_Code_allows_26 : sm_fit (lt_R kCode_allows) (lt_n kCode_allows) (lt_fl kCode_allows).1 (lt_fl kCode_allows).2 (lt_r kCode_allows) (lt_b kCode_allows) (pc_Code_allows) (pc_Code_allows 26) (i_Code_allows_26) = true := by decide +kernel
theorem fit_Code_allows_27 : sm_fit (lt_R kCode_allows) (lt_n kCode_allows) (lt_fl kCode_allows).1 (lt_fl kCode_allows).2 (lt_r kCode_allows) (lt_b kCode_allows) (pc_Code_allows) (pc_Code_allows 27) (i_Code_allows_27) = true := by decide +kernel
theorem fit_Code_allows_28 : sm_fit (lt_R kCode_allows) (lt_n kCode_allows) (lt_fl kCode_allows).1 (lt_fl kCode_allows).2 (lt_r kCode_allows) (lt_b kCode_allows) (pc_Code_allows) (pc_Code_allows 28) (i_Code_allows_28) = true := by decide +kernel
theorem fit_Code_allows_29 : sm_fit (lt_R kCode_allows) (lt_n kCode_allows) (lt_fl kCode_allows).1 (lt_fl kCode_allows).2 (lt_r kCode_allows) (lt_b kCode_allows) (pc_Code_allows) (pc_Code_allows 29) (i_Code_allows_29) = true := by decide +kernel
theorem fit_Code_allows_30 : sm_fit (lt_R kCode_allows) (lt_n kCode_allows) (lt_fl kCode_allows).1 (lt_fl kCode_allows).2 (lt_r kCode_allows) (lt_b kCode_allows) (pc_Code_allows) (pc_Code_allows 30) (i_Code_allows_30) = true := by decide +kernel
theorem fit_Code_allows_31 : sm_fit (lt_R kCode_allows) (lt_n kCode_allows) (lt_fl kCode_allows).1 (lt_fl kCode_allows).2 (lt_r kCode_allows) (lt_b kCode_allows) (pc_Code_allows) (pc_Code_allows 31) (i_Code_allows_31) = true := by decide +kernel
theorem fit_Code_allows_32 : sm_fit (lt_R kCode_allows) (lt_n kCode_allows) (lt_fl kCode_allows).1 (lt_fl kCode_allows).2 (lt_r kCode_allows) (lt_b kCode_allows) (pc_Code_allows) (pc_Code_allows 32) (i_Code_allows_32) = true := by decide +kernel
theorem fit_Code_allows_33 : sm_fit (lt_R kCode_allows) (lt_n kCode_allows) (lt_fl kCode_allows).1 (lt_fl kCode_allows).2 (lt_r kCode_allows) (lt_b kCode_allows) (pc_Code_allows) (pc_Code_allows 33) (i_Code_allows_33) = true := by decide +kernel
theorem fit_Code_allows_34 : sm_fit (lt_R kCode_allows) (lt_n kCode_allows) (lt_fl kCode_allows).1 (lt_fl kCode_allows).2 (lt_r kCode_allows) (lt_b kCode_allows) (pc_Code_allows) (pc_Code_allows 34) (i_Code_allows_34) = true := by decide +kernel
theorem fit_Code_allows_35 : sm_fit (lt_R kCode_allows) (lt_n kCode_allows) (lt_fl kCode_allows).1 (lt_fl kCode_allows).2 (lt_r kCode_allows) (lt_b kCode_allows) (pc_Code_allows) (pc_Code_allows 35) (i_Code_allows_35) = true := by decide +kernel
theorem fit_Code_allows_36 : sm_fit (lt_R kCode_allows) (lt_n kCode_allows) (lt_fl kCode_allows).1 (lt_fl kCode_allows).2 (lt_r kCode_allows) (lt_b kCode_allows) (pc_Code_allows) (pc_Code_allows 36) (i_Code_allows_36) = true := by decide +kernel
theorem fit_Code_allows_37 : sm_fit (lt_R kCode_allows) (lt_n kCode_allows) (lt_fl kCode_allows).1 (lt_fl kCode_allows).2 (lt_r kCode_allows) (lt_b kCode_allows) (pc_Code_allows) (pc_Code_allows 37) (i_Code_allows_37) = true := by decide +kernel
theorem fit_Code_stepNeeded_0 : sm_fit (lt_R kCode_stepNeeded) (lt_n kCode_stepNeeded) (lt_fl kCode_stepNeeded).1 (lt_fl kCode_stepNeeded).2 (lt_r kCode_stepNeeded) (lt_b kCode_stepNeeded) (pc_Code_stepNeeded) (pc_Code_stepNeeded 0) (i_Code_stepNeeded_0) = true := by decide +kernel
theorem fit_Code_stepNeeded_1 : sm_fit (lt_R kCode_stepNeeded) (lt_n kCode_stepNeeded) (lt_fl kCode_stepNeeded).1 (lt_fl kCode_stepNeeded).2 (lt_r kCode_stepNeeded) (lt_b kCode_stepNeeded) (pc_Code_stepNeeded) (pc_Code_stepNeeded 1) (i_Code_stepNeeded_1) = true := by decide +kernel
theorem fit_Code_stepNeeded_2 : sm_fit (lt_R kCode_stepNeeded) (lt_n kCode_stepNeeded) (lt_fl kCode_stepNeeded).1 (lt_fl kCode_stepNeeded).2 (lt_r kCode_stepNeeded) (lt_b kCode_stepNeeded) (pc_Code_stepNeeded) (pc_Code_stepNeeded 2) (i_Code_stepNeeded_2) = true := by decide +kernel
theorem fit_Code_stepNeeded_3 : sm_fit (lt_R kCode_stepNeeded) (lt_n kCode_stepNeeded) (lt_fl kCode_stepNeeded).1 (lt_fl kCode_stepNeeded).2 (lt_r kCode_stepNeeded) (lt_b kCode_stepNeeded) (pc_Code_stepNeeded) (pc_Code_stepNeeded 3) (i_Code_stepNeeded_3) = true := by decide +kernel
theorem fit_Code_stepNeeded_4 : sm_fit (lt_R kCode_stepNeeded) (lt_n kCode_stepNeeded) (lt_fl kCode_stepNeeded).1 (lt_fl kCode_stepNeeded).2 (lt_r kCode_stepNeeded) (lt_b kCode_stepNeeded) (pc_Code_stepNeeded) (pc_Code_stepNeeded 4) (i_Code_stepNeeded_4) = true := by decide +kernel
theorem fit_Code_stepNeeded_5 : sm_fit (lt_R kCode_stepNeeded) (lt_n kCode_stepNeeded) (lt_fl kCode_stepNeeded).1 (lt_fl kCode_stepNeeded).2 (lt_r kCode_stepNeeded) (lt_b kCode_stepNeeded) (pc_Code_stepNeeded) (pc_Code_stepNeeded 5) (i_Code_stepNeeded_5) = true := by decide +kernel
theorem fit_Code_wrongWay_0 : sm_fit (lt_R kCode_wrongWay) (lt_n kCode_wrongWay) (lt_fl kCode_wrongWay).1 (lt_fl kCode_wrongWay).2 (lt_r kCode_wrongWay) (lt_b kCode_wrongWay) (pc_Code_wrongWay) (pc_Code_wrongWay 0) (i_Code_wrongWay_0) = true := by decide +kernel
theorem fit_Code_wrongWay_1 : sm_fit (lt_R kCode_wrongWay) (lt_n kCode_wrongWay) (lt_fl kCode_wrongWay).1 (lt_fl kCode_wrongWay).2 (lt_r kCode_wrongWay) (lt_b kCode_wrongWay) (pc_Code_wrongWay) (pc_Code_wrongWay 1) (i_Code_wrongWay_1) = true := by decide +kernel
theorem fit_Code_wrongWay_2 : sm_fit (lt_R kCode_wrongWay) (lt_n kCode_wrongWay) (lt_fl kCode_wrongWay).1 (lt_fl kCode_wrongWay).2 (lt_r kCode_wrongWay) (lt_b kCode_wrongWay) (pc_Code_wrongWay) (pc_Code_wrongWay 2) (i_Code_wrongWay_2) = true := by decide +kernel
theorem fit_Code_wrongWay_3 : sm_fit (lt_R kCode_wrongWay) (lt_n kCode_wrongWay) (lt_fl kCode_wrongWay).1 (lt_fl kCode_wrongWay).2 (lt_r kCode_wrongWay) (lt_b kCode_wrongWay) (pc_Code_wrongWay) (pc_Code_wrongWay 3) (i_Code_wrongWay_3) = true := by decide +kernel
theorem fit_Code_wrongWay_4 : sm_fit (lt_R kCode_wrongWay) (lt_n kCode_wrongWay) (lt_fl kCode_wrongWay).1 (lt_fl kCode_wrongWay).2 (lt_r kCode_wrongWay) (lt_b kCode_wrongWay) (pc_Code_wrongWay) (pc_Code_wrongWay 4) (i_Code_wrongWay_4) = true := by decide +kernel
theorem fit_Code_wrongWay_5 : sm_fit (lt_R kCode_wrongWay) (lt_n kCode_wrongWay) (lt_fl kCode_wrongWay).1 (lt_fl kCode_wrongWay).2 (lt_r kCode_wrongWay) (lt_b kCode_wrongWay) (pc_Code_wrongWay) (pc_Code_wrongWay 5) (i_Code_wrongWay_5) = true := by decide +kernel
theorem fit_Code_wrongWay_6 : sm_fit (lt_R kCode_wrongWay) (lt_n kCode_wrongWay) (lt_fl kCode_wrongWay).1 (lt_fl kCode_wrongWay).2 (lt_r kCode_wrongWay) (lt_b kCode_wrongWay) (pc_Code_wrongWay) (pc_Code_wrongWay 6) (i_Code_wrongWay_6) = true := by decide +kernel
theorem fit_Code_wrongWay_7 : sm_fit (lt_R kCode_wrongWay) (lt_n kCode_wrongWay) (lt_fl kCode_wrongWay).1 (lt_fl kCode_wrongWay).2 (lt_r kCode_wrongWay) (lt_b kCode_wrongWay) (pc_Code_wrongWay) (pc_Code_wrongWay 7) (i_Code_wrongWay_7) = true := by decide +kernel
theorem fit_Code_wrongWay_8 : sm_fit (lt_R kCode_wrongWay) (lt_n kCode_wrongWay) (lt_fl kCode_wrongWay).1 (lt_fl kCode_wrongWay).2 (lt_r kCode_wrongWay) (lt_b kCode_wrongWay) (pc_Code_wrongWay) (pc_Code_wrongWay 8) (i_Code_wrongWay_8) = true := by decide +kernel
theorem fit_Code_size_0 : sm_fit (lt_R kCode_size) (lt_n kCode_size) (lt_fl kCode_size).1 (lt_fl kCode_size).2 (lt_r kCode_size) (lt_b kCode_size) (pc_Code_size) (pc_Code_size 0) (i_Code_size_0) = true := by decide +kernel
theorem fit_Code_isFull_0 : sm_fit (lt_R kCode_isFull) (lt_n kCode_isFull) (lt_fl kCode_isFull).1 (lt_fl kCode_isFull).2 (lt_r kCode_isFull) (lt_b kCode_isFull) (pc_Code_isFull) (pc_Code_isFull 0) (i_Code_isFull_0) = true := by decide +kernel
theorem fit_Code_isFull_1 : sm_fit (lt_R kCode_isFull) (lt_n kCode_isFull) (lt_fl kCode_isFull).1 (lt_fl kCode_isFull).2 (lt_r kCode_isFull) (lt_b kCode_isFull) (pc_Code_isFull) (pc_Code_isFull 1) (i_Code_isFull_1) = true := by decide +kernel
theorem fit_Code_isFull_2 : sm_fit (lt_R kCode_isFull) (lt_n kCode_isFull) (lt_fl kCode_isFull).1 (lt_fl kCode_isFull).2 (lt_r kCode_isFull) (lt_b kCode_isFull) (pc_Code_isFull) (pc_Code_isFull 2) (i_Code_isFull_2) = true := by decide +kernel
theorem fit_Code_isFull_3 : sm_fit (lt_R kCode_isFull) (lt_n kCode_isFull) (lt_fl kCode_isFull).1 (lt_fl kCode_isFull).2 (lt_r kCode_isFull) (lt_b kCode_isFull) (pc_Code_isFull) (pc_Code_isFull 3) (i_Code_isFull_3) = true := by decide +kernel
theorem fit_Code_add_0 : sm_fit (lt_R kCode_add) (lt_n kCode_add) (lt_fl kCode_add).1 (lt_fl kCode_add).2 (lt_r kCode_add) (lt_b kCode_add) (pc_Code_add) (pc_Code_add 0) (i_Code_add_0) = true := by decide +kernel
theorem fit_Code_add_1 : sm_fit (lt_R kCode_add) (lt_n kCode_add) (lt_fl kCode_add).1 (lt_fl kCode_add).2 (lt_r kCode_add) (lt_b kCode_add) (pc_Code_add) (pc_Code_add 1) (i_Code_add_1) = true := by decide +kernel
theorem fit_Code_add_2 : sm_fit (lt_R kCode_add) (lt_n kCode_add) (lt_fl kCode_add).1 (lt_fl kCode_add).2 (lt_r kCode_add) (lt_b kCode_add) (pc_Code_add) (pc_Code_add 2) (i_Code_add_2) = true := by decide +kernel
theorem fit_Code_removeLast_0 : sm_fit (lt_R kCode_removeLast) (lt_n kCode_removeLast) (lt_fl kCode_removeLast).1 (lt_fl kCode_removeLast).2 (lt_r kCode_removeLast) (lt_b kCode_removeLast) (pc_Code_removeLast) (pc_Code_removeLast 0) (i_Code_removeLast_0) = true := by decide +kernel
theorem fit_Code_removeLast_1 : sm_fit (lt_R kCode_removeLast) (lt_n kCode_removeLast) (lt_fl kCode_removeLast).1 (lt_fl kCode_removeLast).2 (lt_r kCode_removeLast) (lt_b kCode_removeLast) (pc_Code_removeLast) (pc_Code_removeLast 1) (i_Code_removeLast_1) = true := by decide +kernel
theorem fit_Code_removeLast_2 : sm_fit (lt_R kCode_removeLast) (lt_n kCode_removeLast) (lt_fl kCode_removeLast).1 (lt_fl kCode_removeLast).2 (lt_r kCode_removeLast) (lt_b kCode_removeLast) (pc_Code_removeLast) (pc_Code_removeLast 2) (i_Code_removeLast_2) = true := by decide +kernel
theorem fit_Code_whatAt_0 : sm_fit (lt_R kCode_whatAt) (lt_n kCode_whatAt) (lt_fl kCode_whatAt).1 (lt_fl kCode_whatAt).2 (lt_r kCode_whatAt) (lt_b kCode_whatAt) (pc_Code_whatAt) (pc_Code_whatAt 0) (i_Code_whatAt_0) = true := by decide +kernel
theorem fit_Code_whatAt_1 : sm_fit (lt_R kCode_whatAt) (lt_n kCode_whatAt) (lt_fl kCode_whatAt).1 (lt_fl kCode_whatAt).2 (lt_r kCode_whatAt) (lt_b kCode_whatAt) (pc_Code_whatAt) (pc_Code_whatAt 1) (i_Code_whatAt_1) = true := by decide +kernel
theorem fit_Code_whatAt_2 : sm_fit (lt_R kCode_whatAt) (lt_n kCode_whatAt) (lt_fl kCode_whatAt).1 (lt_fl kCode_whatAt).2 (lt_r kCode_whatAt) (lt_b kCode_whatAt) (pc_Code_whatAt) (pc_Code_whatAt 2) (i_Code_whatAt_2) = true := by decide +kernel
theorem fit_Code_whatAt_3 : sm_fit (lt_R kCode_whatAt) (lt_n kCode_whatAt) (lt_fl kCode_whatAt).1 (lt_fl kCode_whatAt).2 (lt_r kCode_whatAt) (lt_b kCode_whatAt) (pc_Code_whatAt) (pc_Code_whatAt 3) (i_Code_whatAt_3) = true := by decide +kernel
theorem fit_Code_whatAt_4 : sm_fit (lt_R kCode_whatAt) (lt_n kCode_whatAt) (lt_fl kCode_whatAt).1 (lt_fl kCode_whatAt).2 (lt_r kCode_whatAt) (lt_b kCode_whatAt) (pc_Code_whatAt) (pc_Code_whatAt 4) (i_Code_whatAt_4) = true := by decide +kernel
theorem fit_Code_aAt_0 : sm_fit (lt_R kCode_aAt) (lt_n kCode_aAt) (lt_fl kCode_aAt).1 (lt_fl kCode_aAt).2 (lt_r kCode_aAt) (lt_b kCode_aAt) (pc_Code_aAt) (pc_Code_aAt 0) (i_Code_aAt_0) = true := by decide +kernel
theorem fit_Code_aAt_1 : sm_fit (lt_R kCode_aAt) (lt_n kCode_aAt) (lt_fl kCode_aAt).1 (lt_fl kCode_aAt).2 (lt_r kCode_aAt) (lt_b kCode_aAt) (pc_Code_aAt) (pc_Code_aAt 1) (i_Code_aAt_1) = true := by decide +kernel
theorem fit_Code_aAt_2 : sm_fit (lt_R kCode_aAt) (lt_n kCode_aAt) (lt_fl kCode_aAt).1 (lt_fl kCode_aAt).2 (lt_r kCode_aAt) (lt_b kCode_aAt) (pc_Code_aAt) (pc_Code_aAt 2) (i_Code_aAt_2) = true := by decide +kernel
theorem fit_Code_aAt_3 : sm_fit (lt_R kCode_aAt) (lt_n kCode_aAt) (lt_fl kCode_aAt).1 (lt_fl kCode_aAt).2 (lt_r kCode_aAt) (lt_b kCode_aAt) (pc_Code_aAt) (pc_Code_aAt 3) (i_Code_aAt_3) = true := by decide +kernel
theorem fit_Code_aAt_4 : sm_fit (lt_R kCode_aAt) (lt_n kCode_aAt) (lt_fl kCode_aAt).1 (lt_fl kCode_aAt).2 (lt_r kCode_aAt) (lt_b kCode_aAt) (pc_Code_aAt) (pc_Code_aAt 4) (i_Code_aAt_4) = true := by decide +kernel
theorem fit_Code_bAt_0 : sm_fit (lt_R kCode_bAt) (lt_n kCode_bAt) (lt_fl kCode_bAt).1 (lt_fl kCode_bAt).2 (lt_r kCode_bAt) (lt_b kCode_bAt) (pc_Code_bAt) (pc_Code_bAt 0) (i_Code_bAt_0) = true := by decide +kernel
theorem fit_Code_bAt_1 : sm_fit (lt_R kCode_bAt) (lt_n kCode_bAt) (lt_fl kCode_bAt).1 (lt_fl kCode_bAt).2 (lt_r kCode_bAt) (lt_b kCode_bAt) (pc_Code_bAt) (pc_Code_bAt 1) (i_Code_bAt_1) = true := by decide +kernel
theorem fit_Code_bAt_2 : sm_fit (lt_R kCode_bAt) (lt_n kCode_bAt) (lt_fl kCode_bAt).1 (lt_fl kCode_bAt).2 (lt_r kCode_bAt) (lt_b kCode_bAt) (pc_Code_bAt) (pc_Code_bAt 2) (i_Code_bAt_2) = true := by decide +kernel
theorem fit_Code_bAt_3 : sm_fit (lt_R kCode_bAt) (lt_n kCode_bAt) (lt_fl kCode_bAt).1 (lt_fl kCode_bAt).2 (lt_r kCode_bAt) (lt_b kCode_bAt) (pc_Code_bAt) (pc_Code_bAt 3) (i_Code_bAt_3) = true := by decide +kernel
theorem fit_Code_bAt_4 : sm_fit (lt_R kCode_bAt) (lt_n kCode_bAt) (lt_fl kCode_bAt).1 (lt_fl kCode_bAt).2 (lt_r kCode_bAt) (lt_b kCode_bAt) (pc_Code_bAt) (pc_Code_bAt 4) (i_Code_bAt_4) = true := by decide +kernel
theorem fit_Code_targetAt_0 : sm_fit (lt_R kCode_targetAt) (lt_n kCode_targetAt) (lt_fl kCode_targetAt).1 (lt_fl kCode_targetAt).2 (lt_r kCode_targetAt) (lt_b kCode_targetAt) (pc_Code_targetAt) (pc_Code_targetAt 0) (i_Code_targetAt_0) = true := by decide +kernel
theorem fit_Code_targetAt_1 : sm_fit (lt_R kCode_targetAt) (lt_n kCode_targetAt) (lt_fl kCode_targetAt).1 (lt_fl kCode_targetAt).2 (lt_r kCode_targetAt) (lt_b kCode_targetAt) (pc_Code_targetAt) (pc_Code_targetAt 1) (i_Code_targetAt_1) = true := by decide +kernel
theorem fit_Code_targetAt_2 : sm_fit (lt_R kCode_targetAt) (lt_n kCode_targetAt) (lt_fl kCode_targetAt).1 (lt_fl kCode_targetAt).2 (lt_r kCode_targetAt) (lt_b kCode_targetAt) (pc_Code_targetAt) (pc_Code_targetAt 2) (i_Code_targetAt_2) = true := by decide +kernel
theorem fit_Code_targetAt_3 : sm_fit (lt_R kCode_targetAt) (lt_n kCode_targetAt) (lt_fl kCode_targetAt).1 (lt_fl kCode_targetAt).2 (lt_r kCode_targetAt) (lt_b kCode_targetAt) (pc_Code_targetAt) (pc_Code_targetAt 3) (i_Code_targetAt_3) = true := by decide +kernel
theorem fit_Code_usedAt_0 : sm_fit (lt_R kCode_usedAt) (lt_n kCode_usedAt) (lt_fl kCode_usedAt).1 (lt_fl kCode_usedAt).2 (lt_r kCode_usedAt) (lt_b kCode_usedAt) (pc_Code_usedAt) (pc_Code_usedAt 0) (i_Code_usedAt_0) = true := by decide +kernel
theorem fit_Code_usedAt_1 : sm_fit (lt_R kCode_usedAt) (lt_n kCode_usedAt) (lt_fl kCode_usedAt).1 (lt_fl kCode_usedAt).2 (lt_r kCode_usedAt) (lt_b kCode_usedAt) (pc_Code_usedAt) (pc_Code_usedAt 1) (i_Code_usedAt_1) = true := by decide +kernel
theorem fit_Code_usedAt_2 : sm_fit (lt_R kCode_usedAt) (lt_n kCode_usedAt) (lt_fl kCode_usedAt).1 (lt_fl kCode_usedAt).2 (lt_r kCode_usedAt) (lt_b kCode_usedAt) (pc_Code_usedAt) (pc_Code_usedAt 2) (i_Code_usedAt_2) = true := by decide +kernel
theorem fit_Code_usedAt_3 : sm_fit (lt_R kCode_usedAt) (lt_n kCode_usedAt) (lt_fl kCode_usedAt).1 (lt_fl kCode_usedAt).2 (lt_r kCode_usedAt) (lt_b kCode_usedAt) (pc_Code_usedAt) (pc_Code_usedAt 3) (i_Code_usedAt_3) = true := by decide +kernel
theorem fit_Code_channelAt_0 : sm_fit (lt_R kCode_channelAt) (lt_n kCode_channelAt) (lt_fl kCode_channelAt).1 (lt_fl kCode_channelAt).2 (lt_r kCode_channelAt) (lt_b kCode_channelAt) (pc_Code_channelAt) (pc_Code_channelAt 0) (i_Code_channelAt_0) = true := by decide +kernel
theorem fit_Code_channelAt_1 : sm_fit (lt_R kCode_channelAt) (lt_n kCode_channelAt) (lt_fl kCode_channelAt).1 (lt_fl kCode_channelAt).2 (lt_r kCode_channelAt) (lt_b kCode_channelAt) (pc_Code_channelAt) (pc_Code_channelAt 1) (i_Code_channelAt_1) = true := by decide +kernel
theorem fit_Code_channelAt_2 : sm_fit (lt_R kCode_channelAt) (lt_n kCode_channelAt) (lt_fl kCode_channelAt).1 (lt_fl kCode_channelAt).2 (lt_r kCode_channelAt) (lt_b kCode_channelAt) (pc_Code_channelAt) (pc_Code_channelAt 2) (i_Code_channelAt_2) = true := by decide +kernel
theorem fit_Code_channelAt_3 : sm_fit (lt_R kCode_channelAt) (lt_n kCode_channelAt) (lt_fl kCode_channelAt).1 (lt_fl kCode_channelAt).2 (lt_r kCode_channelAt) (lt_b kCode_channelAt) (pc_Code_channelAt) (pc_Code_channelAt 3) (i_Code_channelAt_3) = true := by decide +kernel
theorem fit_Code_after_0 : sm_fit (lt_R kCode_after) (lt_n kCode_after) (lt_fl kCode_after).1 (lt_fl kCode_after).2 (lt_r kCode_after) (lt_b kCode_after) (pc_Code_after) (pc_Code_after 0) (i_Code_after_0) = true := by decide +kernel
theorem fit_Code_jumpOf_0 : sm_fit (lt_R kCode_jumpOf) (lt_n kCode_jumpOf) (lt_fl kCode_jumpOf).1 (lt_fl kCode_jumpOf).2 (lt_r kCode_jumpOf) (lt_b kCode_jumpOf) (pc_Code_jumpOf) (pc_Code_jumpOf 0) (i_Code_jumpOf_0) = true := by decide +kernel
theorem fit_Code_jumpOf_1 : sm_fit (lt_R kCode_jumpOf) (lt_n kCode_jumpOf) (lt_fl kCode_jumpOf).1 (lt_fl kCode_jumpOf).2 (lt_r kCode_jumpOf) (lt_b kCode_jumpOf) (pc_Code_jumpOf) (pc_Code_jumpOf 1) (i_Code_jumpOf_1) = true := by decide +kernel
theorem fit_Code_jumpOf_2 : sm_fit (lt_R kCode_jumpOf) (lt_n kCode_jumpOf) (lt_fl kCode_jumpOf).1 (lt_fl kCode_jumpOf).2 (lt_r kCode_jumpOf) (lt_b kCode_jumpOf) (pc_Code_jumpOf) (pc_Code_jumpOf 2) (i_Code_jumpOf_2) = true := by decide +kernel
theorem fit_Code_jumpOf_3 : sm_fit (lt_R kCode_jumpOf) (lt_n kCode_jumpOf) (lt_fl kCode_jumpOf).1 (lt_fl kCode_jumpOf).2 (lt_r kCode_jumpOf) (lt_b kCode_jumpOf) (pc_Code_jumpOf) (pc_Code_jumpOf 3) (i_Code_jumpOf_3) = true := by decide +kernel
theorem fit_Code_jumpOf_4 : sm_fit (lt_R kCode_jumpOf) (lt_n kCode_jumpOf) (lt_fl kCode_jumpOf).1 (lt_fl kCode_jumpOf).2 (lt_r kCode_jumpOf) (lt_b kCode_jumpOf) (pc_Code_jumpOf) (pc_Code_jumpOf 4) (i_Code_jumpOf_4) = true := by decide +kernel
theorem fit_Course_isOn_0 : sm_fit (lt_R kCourse_isOn) (lt_n kCourse_isOn) (lt_fl kCourse_isOn).1 (lt_fl kCourse_isOn).2 (lt_r kCourse_isOn) (lt_b kCourse_isOn) (pc_Course_isOn) (pc_Course_isOn 0) (i_Course_isOn_0) = true := by decide +kernel
theorem fit_Course_stop_0 : sm_fit (lt_R kCourse_stop) (lt_n kCourse_stop) (lt_fl kCourse_stop).1 (lt_fl kCourse_stop).2 (lt_r kCourse_stop) (lt_b kCourse_stop) (pc_Course_stop) (pc_Course_stop 0) (i_Course_stop_0) = true := by decide +kernel
theorem fit_Course_restart_0 : sm_fit (lt_R kCourse_restart) (lt_n kCourse_restart) (lt_fl kCourse_restart).1 (lt_fl kCourse_restart).2 (lt_r kCourse_restart) (lt_b kCourse_restart) (pc_Course_restart) (pc_Course_restart 0) (i_Course_restart_0) = true := by decide +kernel
theorem fit_Course_restart_1 : sm_fit (lt_R kCourse_restart) (lt_n kCourse_restart) (lt_fl kCourse_restart).1 (lt_fl kCourse_restart).2 (lt_r kCourse_restart) (lt_b kCourse_restart) (pc_Course_restart) (pc_Course_restart 1) (i_Course_restart_1) = true := by decide +kernel
theorem fit_Course_restart_2 : sm_fit (lt_R kCourse_restart) (lt_n kCourse_restart) (lt_fl kCourse_restart).1 (lt_fl kCourse_restart).2 (lt_r kCourse_restart) (lt_b kCourse_restart) (pc_Course_restart) (pc_Course_restart 2) (i_Course_restart_2) = true := by decide +kernel
theorem fit_Course_restart_3 : sm_fit (lt_R kCourse_restart) (lt_n kCourse_restart) (lt_fl kCourse_restart).1 (lt_fl kCourse_restart).2 (lt_r kCourse_restart) (lt_b kCourse_restart) (pc_Course_restart) (pc_Course_restart 3) (i_Course_restart_3) = true := by decide +kernel
theorem fit_Course_body_0 : sm_fit (lt_R kCourse_body) (lt_n kCourse_body) (lt_fl kCourse_body).1 (lt_fl kCourse_body).2 (lt_r kCourse_body) (lt_b kCourse_body) (pc_Course_body) (pc_Course_body 0) (i_Course_body_0) = true := by decide +kernel
theorem fit_Course_ledger_0 : sm_fit (lt_R kCourse_ledger) (lt_n kCourse_ledger) (lt_fl kCourse_ledger).1 (lt_fl kCourse_ledger).2 (lt_r kCourse_ledger) (lt_b kCourse_ledger) (pc_Course_ledger) (pc_Course_ledger 0) (i_Course_ledger_0) = true := by decide +kernel
theorem fit_Course_countFor_0 : sm_fit (lt_R kCourse_countFor) (lt_n kCourse_countFor) (lt_fl kCourse_countFor).1 (lt_fl kCourse_countFor).2 (lt_r kCourse_countFor) (lt_b kCourse_countFor) (pc_Course_countFor) (pc_Course_countFor 0) (i_Course_countFor_0) = true := by decide +kernel
theorem fit_Course_queueOf_0 : sm_fit (lt_R kCourse_queueOf) (lt_n kCourse_queueOf) (lt_fl kCourse_queueOf).1 (lt_fl kCourse_queueOf).2 (lt_r kCourse_queueOf) (lt_b kCourse_queueOf) (pc_Course_queueOf) (pc_Course_queueOf 0) (i_Course_queueOf_0) = true := by decide +kernel
theorem fit_Course_queueOf_1 : sm_fit (lt_R kCourse_queueOf) (lt_n kCourse_queueOf) (lt_fl kCourse_queueOf).1 (lt_fl kCourse_queueOf).2 (lt_r kCourse_queueOf) (lt_b kCourse_queueOf) (pc_Course_queueOf) (pc_Course_queueOf 1) (i_Course_queueOf_1) = true := by decide +kernel
theorem fit_Course_queueOf_2 : sm_fit (lt_R kCourse_queueOf) (lt_n kCourse_queueOf) (lt_fl kCourse_queueOf).1 (lt_fl kCourse_queueOf).2 (lt_r kCourse_queueOf) (lt_b kCourse_queueOf) (pc_Course_queueOf) (pc_Course_queueOf 2) (i_Course_queueOf_2) = true := by decide +kernel
theorem fit_Course_queueOf_3 : sm_fit (lt_R kCourse_queueOf) (lt_n kCourse_queueOf) (lt_fl kCourse_queueOf).1 (lt_fl kCourse_queueOf).2 (lt_r kCourse_queueOf) (lt_b kCourse_queueOf) (pc_Course_queueOf) (pc_Course_queueOf 3) (i_Course_queueOf_3) = true := by decide +kernel
theorem fit_Course_draw_0 : sm_fit (lt_R kCourse_draw) (lt_n kCourse_draw) (lt_fl kCourse_draw).1 (lt_fl kCourse_draw).2 (lt_r kCourse_draw) (lt_b kCourse_draw) (pc_Course_draw) (pc_Course_draw 0) (i_Course_draw_0) = true := by decide +kernel
theorem fit_Course_draw_1 : sm_fit (lt_R kCourse_draw) (lt_n kCourse_draw) (lt_fl kCourse_draw).1 (lt_fl kCourse_draw).2 (lt_r kCourse_draw) (lt_b kCourse_draw) (pc_Course_draw) (pc_Course_draw 1) (i_Course_draw_1) = true := by decide +kernel
theorem fit_Course_draw_2 : sm_fit (lt_R kCourse_draw) (lt_n kCourse_draw) (lt_fl kCourse_draw).1 (lt_fl kCourse_draw).2 (lt_r kCourse_draw) (lt_b kCourse_draw) (pc_Course_draw) (pc_Course_draw 2) (i_Course_draw_2) = true := by decide +kernel
theorem fit_Course_draw_3 : sm_fit (lt_R kCourse_draw) (lt_n kCourse_draw) (lt_fl kCourse_draw).1 (lt_fl kCourse_draw).2 (lt_r kCourse_draw) (lt_b kCourse_draw) (pc_Course_draw) (pc_Course_draw 3) (i_Course_draw_3) = true := by decide +kernel
theorem fit_Course_draw_4 : sm_fit (lt_R kCourse_draw) (lt_n kCourse_draw) (lt_fl kCourse_draw).1 (lt_fl kCourse_draw).2 (lt_r kCourse_draw) (lt_b kCourse_draw) (pc_Course_draw) (pc_Course_draw 4) (i_Course_draw_4) = true := by unfold i_Course_draw_4; rw [lt_K1_eq]; decide +kernel
theorem fit_Course_draw_5 : sm_fit (lt_R kCourse_draw) (lt_n kCourse_draw) (lt_fl kCourse_draw).1 (lt_fl kCourse_draw).2 (lt_r kCourse_draw) (lt_b kCourse_draw) (pc_Course_draw) (pc_Course_draw 5) (i_Course_draw_5) = true := by decide +kernel
theorem fit_Course_draw_6 : sm_fit (lt_R kCourse_draw) (lt_n kCourse_draw) (lt_fl kCourse_draw).1 (lt_fl kCourse_draw).2 (lt_r kCourse_draw) (lt_b kCourse_draw) (pc_Course_draw) (pc_Course_draw 6) (i_Course_draw_6) = true := by decide +kernel
theorem fit_Course_draw_7 : sm_fit (lt_R kCourse_draw) (lt_n kCourse_draw) (lt_fl kCourse_draw).1 (lt_fl kCourse_draw).2 (lt_r kCourse_draw) (lt_b kCourse_draw) (pc_Course_draw) (pc_Course_draw 7) (i_Course_draw_7) = true := by decide +kernel
theorem fit_Course_draw_8 : sm_fit (lt_R kCourse_draw) (lt_n kCourse_draw) (lt_fl kCourse_draw).1 (lt_fl kCourse_draw).2 (lt_r kCourse_draw) (lt_b kCourse_draw) (pc_Course_draw) (pc_Course_draw 8) (i_Course_draw_8) = true := by decide +kernel
theorem fit_Course_countReady_0 : sm_fit (lt_R kCourse_countReady) (lt_n kCourse_countReady) (lt_fl kCourse_countReady).1 (lt_fl kCourse_countReady).2 (lt_r kCourse_countReady) (lt_b kCourse_countReady) (pc_Course_countReady) (pc_Course_countReady 0) (i_Course_countReady_0) = true := by decide +kernel
theorem fit_Course_countReady_1 : sm_fit (lt_R kCourse_countReady) (lt_n kCourse_countReady) (lt_fl kCourse_countReady).1 (lt_fl kCourse_countReady).2 (lt_r kCourse_countReady) (lt_b kCourse_countReady) (pc_Course_countReady) (pc_Course_countReady 1) (i_Course_countReady_1) = true := by decide +kernel
theorem fit_Course_countReady_2 : sm_fit (lt_R kCourse_countReady) (lt_n kCourse_countReady) (lt_fl kCourse_countReady).1 (lt_fl kCourse_countReady).2 (lt_r kCourse_countReady) (lt_b kCourse_countReady) (pc_Course_countReady) (pc_Course_countReady 2) (i_Course_countReady_2) = true := by decide +kernel
theorem fit_Course_countReady_3 : sm_fit (lt_R kCourse_countReady) (lt_n kCourse_countReady) (lt_fl kCourse_countReady).1 (lt_fl kCourse_countReady).2 (lt_r kCourse_countReady) (lt_b kCourse_countReady) (pc_Course_countReady) (pc_Course_countReady 3) (i_Course_countReady_3) = true := by decide +kernel
theorem fit_Course_countReady_4 : sm_fit (lt_R kCourse_countReady) (lt_n kCourse_countReady) (lt_fl kCourse_countReady).1 (lt_fl kCourse_countReady).2 (lt_r kCourse_countReady) (lt_b kCourse_countReady) (pc_Course_countReady) (pc_Course_countReady 4) (i_Course_countReady_4) = true := by decide +kernel
theorem fit_Course_countReady_5 : sm_fit (lt_R kCourse_countReady) (lt_n kCourse_countReady) (lt_fl kCourse_countReady).1 (lt_fl kCourse_countReady).2 (lt_r kCourse_countReady) (lt_b kCourse_countReady) (pc_Course_countReady) (pc_Course_countReady 5) (i_Course_countReady_5) = true := by decide +kernel
theorem fit_Course_countReady_6 : sm_fit (lt_R kCourse_countReady) (lt_n kCourse_countReady) (lt_fl kCourse_countReady).1 (lt_fl kCourse_countReady).2 (lt_r kCourse_countReady) (lt_b kCourse_countReady) (pc_Course_countReady) (pc_Course_countReady 6) (i_Course_countReady_6) = true := by decide +kernel
theorem fit_Course_readyAt_0 : sm_fit (lt_R kCourse_readyAt) (lt_n kCourse_readyAt) (lt_fl kCourse_readyAt).1 (lt_fl kCourse_readyAt).2 (lt_r kCourse_readyAt) (lt_b kCourse_readyAt) (pc_Course_readyAt) (pc_Course_readyAt 0) (i_Course_readyAt_0) = true := by decide +kernel
theorem fit_Course_readyAt_1 : sm_fit (lt_R kCourse_readyAt) (lt_n kCourse_readyAt) (lt_fl kCourse_readyAt).1 (lt_fl kCourse_readyAt).2 (lt_r kCourse_readyAt) (lt_b kCourse_readyAt) (pc_Course_readyAt) (pc_Course_readyAt 1) (i_Course_readyAt_1) = true := by decide +kernel
theorem fit_Course_readyAt_2 : sm_fit (lt_R kCourse_readyAt) (lt_n kCourse_readyAt) (lt_fl kCourse_readyAt).1 (lt_fl kCourse_readyAt).2 (lt_r kCourse_readyAt) (lt_b kCourse_readyAt) (pc_Course_readyAt) (pc_Course_readyAt 2) (i_Course_readyAt_2) = true := by decide +kernel
theorem fit_Course_readyAt_3 : sm_fit (lt_R kCourse_readyAt) (lt_n kCourse_readyAt) (lt_fl kCourse_readyAt).1 (lt_fl kCourse_readyAt).2 (lt_r kCourse_readyAt) (lt_b kCourse_readyAt) (pc_Course_readyAt) (pc_Course_readyAt 3) (i_Course_readyAt_3) = true := by decide +kernel
theorem fit_Course_readyAt_4 : sm_fit (lt_R kCourse_readyAt) (lt_n kCourse_readyAt) (lt_fl kCourse_readyAt).1 (lt_fl kCourse_readyAt).2 (lt_r kCourse_readyAt) (lt_b kCourse_readyAt) (pc_Course_readyAt) (pc_Course_readyAt 4) (i_Course_readyAt_4) = true := by decide +kernel
theorem fit_Course_readyAt_5 : sm_fit (lt_R kCourse_readyAt) (lt_n kCourse_readyAt) (lt_fl kCourse_readyAt).1 (lt_fl kCourse_readyAt).2 (lt_r kCourse_readyAt) (lt_b kCourse_readyAt) (pc_Course_readyAt) (pc_Course_readyAt 5) (i_Course_readyAt_5) = true := by decide +kernel
theorem fit_Course_readyAt_6 : sm_fit (lt_R kCourse_readyAt) (lt_n kCourse_readyAt) (lt_fl kCourse_readyAt).1 (lt_fl kCourse_readyAt).2 (lt_r kCourse_readyAt) (lt_b kCourse_readyAt) (pc_Course_readyAt) (pc_Course_readyAt 6) (i_Course_readyAt_6) = true := by decide +kernel
theorem fit_Course_readyAt_7 : sm_fit (lt_R kCourse_readyAt) (lt_n kCourse_readyAt) (lt_fl kCourse_readyAt).1 (lt_fl kCourse_readyAt).2 (lt_r kCourse_readyAt) (lt_b kCourse_readyAt) (pc_Course_readyAt) (pc_Course_readyAt 7) (i_Course_readyAt_7) = true := by decide +kernel
theorem fit_Course_isReady_0 : sm_fit (lt_R kCourse_isReady) (lt_n kCourse_isReady) (lt_fl kCourse_isReady).1 (lt_fl kCourse_isReady).2 (lt_r kCourse_isReady) (lt_b kCourse_isReady) (pc_Course_isReady) (pc_Course_isReady 0) (i_Course_isReady_0) = true := by decide +kernel
theorem fit_Course_isReady_1 : sm_fit (lt_R kCourse_isReady) (lt_n kCourse_isReady) (lt_fl kCourse_isReady).1 (lt_fl kCourse_isReady).2 (lt_r kCourse_isReady) (lt_b kCourse_isReady) (pc_Course_isReady) (pc_Course_isReady 1) (i_Course_isReady_1) = true := by decide +kernel
theorem fit_Course_isReady_2 : sm_fit (lt_R kCourse_isReady) (lt_n kCourse_isReady) (lt_fl kCourse_isReady).1 (lt_fl kCourse_isReady).2 (lt_r kCourse_isReady) (lt_b kCourse_isReady) (pc_Course_isReady) (pc_Course_isReady 2) (i_Course_isReady_2) = true := by decide +kernel
theorem fit_Course_isReady_3 : sm_fit (lt_R kCourse_isReady) (lt_n kCourse_isReady) (lt_fl kCourse_isReady).1 (lt_fl kCourse_isReady).2 (lt_r kCourse_isReady) (lt_b kCourse_isReady) (pc_Course_isReady) (pc_Course_isReady 3) (i_Course_isReady_3) = true := by decide +kernel
theorem fit_Course_isReady_4 : sm_fit (lt_R kCourse_isReady) (lt_n kCourse_isReady) (lt_fl kCourse_isReady).1 (lt_fl kCourse_isReady).2 (lt_r kCourse_isReady) (lt_b kCourse_isReady) (pc_Course_isReady) (pc_Course_isReady 4) (i_Course_isReady_4) = true := by decide +kernel
theorem fit_Course_mustWait_0 : sm_fit (lt_R kCourse_mustWait) (lt_n kCourse_mustWait) (lt_fl kCourse_mustWait).1 (lt_fl kCourse_mustWait).2 (lt_r kCourse_mustWait) (lt_b kCourse_mustWait) (pc_Course_mustWait) (pc_Course_mustWait 0) (i_Course_mustWait_0) = true := by decide +kernel
theorem fit_Course_mustWait_1 : sm_fit (lt_R kCourse_mustWait) (lt_n kCourse_mustWait) (lt_fl kCourse_mustWait).1 (lt_fl kCourse_mustWait).2 (lt_r kCourse_mustWait) (lt_b kCourse_mustWait) (pc_Course_mustWait) (pc_Course_mustWait 1) (i_Course_mustWait_1) = true := by decide +kernel
theorem fit_Course_mustWait_2 : sm_fit (lt_R kCourse_mustWait) (lt_n kCourse_mustWait) (lt_fl kCourse_mustWait).1 (lt_fl kCourse_mustWait).2 (lt_r kCourse_mustWait) (lt_b kCourse_mustWait) (pc_Course_mustWait) (pc_Course_mustWait 2) (i_Course_mustWait_2) = true := by decide +kernel
theorem fit_Course_mustWait_3 : sm_fit (lt_R kCourse_mustWait) (lt_n kCourse_mustWait) (lt_fl kCourse_mustWait).1 (lt_fl kCourse_mustWait).2 (lt_r kCourse_mustWait) (lt_b kCourse_mustWait) (pc_Course_mustWait) (pc_Course_mustWait 3) (i_Course_mustWait_3) = true := by decide +kernel
theorem fit_Course_mustWait_4 : sm_fit (lt_R kCourse_mustWait) (lt_n kCourse_mustWait) (lt_fl kCourse_mustWait).1 (lt_fl kCourse_mustWait).2 (lt_r kCourse_mustWait) (lt_b kCourse_mustWait) (pc_Course_mustWait) (pc_Course_mustWait 4) (i_Course_mustWait_4) = true := by decide +kernel
theorem fit_Course_mustWait_5 : sm_fit (lt_R kCourse_mustWait) (lt_n kCourse_mustWait) (lt_fl kCourse_mustWait).1 (lt_fl kCourse_mustWait).2 (lt_r kCourse_mustWait) (lt_b kCourse_mustWait) (pc_Course_mustWait) (pc_Course_mustWait 5) (i_Course_mustWait_5) = true := by decide +kernel
theorem fit_Course_mustWait_6 : sm_fit (lt_R kCourse_mustWait) (lt_n kCourse_mustWait) (lt_fl kCourse_mustWait).1 (lt_fl kCourse_mustWait).2 (lt_r kCourse_mustWait) (lt_b kCourse_mustWait) (pc_Course_mustWait) (pc_Course_mustWait 6) (i_Course_mustWait_6) = true := by decide +kernel
theorem fit_Course_mustWait_7 : sm_fit (lt_R kCourse_mustWait) (lt_n kCourse_mustWait) (lt_fl kCourse_mustWait).1 (lt_fl kCourse_mustWait).2 (lt_r kCourse_mustWait) (lt_b kCourse_mustWait) (pc_Course_mustWait) (pc_Course_mustWait 7) (i_Course_mustWait_7) = true := by decide +kernel
theorem fit_Course_mustWait_8 : sm_fit (lt_R kCourse_mustWait) (lt_n kCourse_mustWait) (lt_fl kCourse_mustWait).1 (lt_fl kCourse_mustWait).2 (lt_r kCourse_mustWait) (lt_b kCourse_mustWait) (pc_Course_mustWait) (pc_Course_mustWait 8) (i_Course_mustWait_8) = true := by decide +kernel
theorem fit_Course_mustWait_9 : sm_fit (lt_R kCourse_mustWait) (lt_n kCourse_mustWait) (lt_fl kCourse_mustWait).1 (lt_fl kCourse_mustWait).2 (lt_r kCourse_mustWait) (lt_b kCourse_mustWait) (pc_Course_mustWait) (pc_Course_mustWait 9) (i_Course_mustWait_9) = true := by decide +kernel
theorem fit_Course_mustWait_10 : sm_fit (lt_R kCourse_mustWait) (lt_n kCourse_mustWait) (lt_fl kCourse_mustWait).1 (lt_fl kCourse_mustWait).2 (lt_r kCourse_mustWait) (lt_b kCourse_mustWait) (pc_Course_mustWait) (pc_Course_mustWait 10) (i_Course_mustWait_10) = true := by decide +kernel
theorem fit_Course_mustWait_11 : sm_fit (lt_R kCourse_mustWait) (lt_n kCourse_mustWait) (lt_fl kCourse_mustWait).1 (lt_fl kCourse_mustWait).2 (lt_r kCourse_mustWait) (lt_b kCourse_mustWait) (pc_Course_mustWait) (pc_Course_mustWait 11) (i_Course_mustWait_11) = true := by decide +kernel
theorem fit_Course_mustWait_12 : sm_fit (lt_R kCourse_mustWait) (lt_n kCourse_mustWait) (lt_fl kCourse_mustWait).1 (lt_fl kCourse_mustWait).2 (lt_r kCourse_mustWait) (lt_b kCourse_mustWait) (pc_Course_mustWait) (pc_Course_mustWait 12) (i_Course_mustWait_12) = true := by decide +kernel
theorem fit_Course_suits_0 : sm_fit (lt_R kCourse_suits) (lt_n kCourse_suits) (lt_fl kCourse_suits).1 (lt_fl kCourse_suits).2 (lt_r kCourse_suits) (lt_b kCourse_suits) (pc_Course_suits) (pc_Course_suits 0) (i_Course_suits_0) = true := by decide +kernel
theorem fit_Course_isBeyondDead_0 : sm_fit (lt_R kCourse_isBeyondDead) (lt_n kCourse_isBeyondDead) (lt_fl kCourse_isBeyondDead).1 (lt_fl kCourse_isBeyondDead).2 (lt_r kCourse_isBeyondDead) (lt_b kCourse_isBeyondDead) (pc_Course_isBeyondDead) (pc_Course_isBeyondDead 0) (i_Course_isBeyondDead_0) = true := by decide +kernel
theorem fit_Course_isBeyondDead_1 : sm_fit (lt_R kCourse_isBeyondDead) (lt_n kCourse_isBeyondDead) (lt_fl kCourse_isBeyondDead).1 (lt_fl kCourse_isBeyondDead).2 (lt_r kCourse_isBeyondDead) (lt_b kCourse_isBeyondDead) (pc_Course_isBeyondDead) (pc_Course_isBeyondDead 1) (i_Course_isBeyondDead_1) = true := by decide +kernel
theorem fit_Course_isBeyondDead_2 : sm_fit (lt_R kCourse_isBeyondDead) (lt_n kCourse_isBeyondDead) (lt_fl kCourse_isBeyondDead).1 (lt_fl kCourse_isBeyondDead).2 (lt_r kCourse_isBeyondDead) (lt_b kCourse_isBeyondDead) (pc_Course_isBeyondDead) (pc_Course_isBeyondDead 2) (i_Course_isBeyondDead_2) = true := by decide +kernel
theorem fit_Course_isBeyondDead_3 : sm_fit (lt_R kCourse_isBeyondDead) (lt_n kCourse_isBeyondDead) (lt_fl kCourse_isBeyondDead).1 (lt_fl kCourse_isBeyondDead).2 (lt_r kCourse_isBeyondDead) (lt_b kCourse_isBeyondDead) (pc_Course_isBeyondDead) (pc_Course_isBeyondDead 3) (i_Course_isBeyondDead_3) = true := by decide +kernel
theorem fit_Course_isBeyondDead_4 : sm_fit (lt_R kCourse_isBeyondDead) (lt_n kCourse_isBeyondDead) (lt_fl kCourse_isBeyondDead).1 (lt_fl kCourse_isBeyondDead).2 (lt_r kCourse_isBeyondDead) (lt_b kCourse_isBeyondDead) (pc_Course_isBeyondDead) (pc_Course_isBeyondDead 4) (i_Course_isBeyondDead_4) = true := by decide +kernel
theorem fit_Course_advance_0 : sm_fit (lt_R kCourse_advance) (lt_n kCourse_advance) (lt_fl kCourse_advance).1 (lt_fl kCourse_advance).2 (lt_r kCourse_advance) (lt_b kCourse_advance) (pc_Course_advance) (pc_Course_advance 0) (i_Course_advance_0) = true := by decide +kernel
theorem fit_Course_advance_1 : sm_fit (lt_R kCourse_advance) (lt_n kCourse_advance) (lt_fl kCourse_advance).1 (lt_fl kCourse_advance).2 (lt_r kCourse_advance) (lt_b kCourse_advance) (pc_Course_advance) (pc_Course_advance 1) (i_Course_advance_1) = true := by decide +kernel
theorem fit_Course_advance_2 : sm_fit (lt_R kCourse_advance) (lt_n kCourse_advance) (lt_fl kCourse_advance).1 (lt_fl kCourse_advance).2 (lt_r kCourse_advance) (lt_b kCourse_advance) (pc_Course_advance) (pc_Course_advance 2) (i_Course_advance_2) = true := by decide +kernel
theorem fit_Course_advance_3 : sm_fit (lt_R kCourse_advance) (lt_n kCourse_advance) (lt_fl kCourse_advance).1 (lt_fl kCourse_advance).2 (lt_r kCourse_advance) (lt_b kCourse_advance) (pc_Course_advance) (pc_Course_advance 3) (i_Course_advance_3) = true := by decide +kernel
theorem fit_Course_advance_4 : sm_fit (lt_R kCourse_advance) (lt_n kCourse_advance) (lt_fl kCourse_advance).1 (lt_fl kCourse_advance).2 (lt_r kCourse_advance) (lt_b kCourse_advance) (pc_Course_advance) (pc_Course_advance 4) (i_Course_advance_4) = true := by decide +kernel
theorem fit_Course_advance_5 : sm_fit (lt_R kCourse_advance) (lt_n kCourse_advance) (lt_fl kCourse_advance).1 (lt_fl kCourse_advance).2 (lt_r kCourse_advance) (lt_b kCourse_advance) (pc_Course_advance) (pc_Course_advance 5) (i_Course_advance_5) = true := by decide +kernel
theorem fit_Course_advance_6 : sm_fit (lt_R kCourse_advance) (lt_n kCourse_advance) (lt_fl kCourse_advance).1 (lt_fl kCourse_advance).2 (lt_r kCourse_advance) (lt_b kCourse_advance) (pc_Course_advance) (pc_Course_advance 6) (i_Course_advance_6) = true := by decide +kernel
theorem fit_Course_advance_7 : sm_fit (lt_R kCourse_advance) (lt_n kCourse_advance) (lt_fl kCourse_advance).1 (lt_fl kCourse_advance).2 (lt_r kCourse_advance) (lt_b kCourse_advance) (pc_Course_advance) (pc_Course_advance 7) (i_Course_advance_7) = true := by decide +kernel
theorem fit_Course_advance_8 : sm_fit (lt_R kCourse_advance) (lt_n kCourse_advance) (lt_fl kCourse_advance).1 (lt_fl kCourse_advance).2 (lt_r kCourse_advance) (lt_b kCourse_advance) (pc_Course_advance) (pc_Course_advance 8) (i_Course_advance_8) = true := by decide +kernel
theorem fit_Course_advance_9 : sm_fit (lt_R kCourse_advance) (lt_n kCourse_advance) (lt_fl kCourse_advance).1 (lt_fl kCourse_advance).2 (lt_r kCourse_advance) (lt_b kCourse_advance) (pc_Course_advance) (pc_Course_advance 9) (i_Course_advance_9) = true := by decide +kernel
theorem fit_Course_advance_10 : sm_fit (lt_R kCourse_advance) (lt_n kCourse_advance) (lt_fl kCourse_advance).1 (lt_fl kCourse_advance).2 (lt_r kCourse_advance) (lt_b kCourse_advance) (pc_Course_advance) (pc_Course_advance 10) (i_Course_advance_10) = true := by decide +kernel
theorem fit_Course_endFault_0 : sm_fit (lt_R kCourse_endFault) (lt_n kCourse_endFault) (lt_fl kCourse_endFault).1 (lt_fl kCourse_endFault).2 (lt_r kCourse_endFault) (lt_b kCourse_endFault) (pc_Course_endFault) (pc_Course_endFault 0) (i_Course_endFault_0) = true := by decide +kernel
theorem fit_Course_endFault_1 : sm_fit (lt_R kCourse_endFault) (lt_n kCourse_endFault) (lt_fl kCourse_endFault).1 (lt_fl kCourse_endFault).2 (lt_r kCourse_endFault) (lt_b kCourse_endFault) (pc_Course_endFault) (pc_Course_endFault 1) (i_Course_endFault_1) = true := by decide +kernel
theorem fit_Course_endFault_2 : sm_fit (lt_R kCourse_endFault) (lt_n kCourse_endFault) (lt_fl kCourse_endFault).1 (lt_fl kCourse_endFault).2 (lt_r kCourse_endFault) (lt_b kCourse_endFault) (pc_Course_endFault) (pc_Course_endFault 2) (i_Course_endFault_2) = true := by decide +kernel
theorem fit_Course_endFault_3 : sm_fit (lt_R kCourse_endFault) (lt_n kCourse_endFault) (lt_fl kCourse_endFault).1 (lt_fl kCourse_endFault).2 (lt_r kCourse_endFault) (lt_b kCourse_endFault) (pc_Course_endFault) (pc_Course_endFault 3) (i_Course_endFault_3) = true := by decide +kernel
theorem fit_Course_endFault_4 : sm_fit (lt_R kCourse_endFault) (lt_n kCourse_endFault) (lt_fl kCourse_endFault).1 (lt_fl kCourse_endFault).2 (lt_r kCourse_endFault) (lt_b kCourse_endFault) (pc_Course_endFault) (pc_Course_endFault 4) (i_Course_endFault_4) = true := by decide +kernel
theorem fit_Course_endFault_5 : sm_fit (lt_R kCourse_endFault) (lt_n kCourse_endFault) (lt_fl kCourse_endFault).1 (lt_fl kCourse_endFault).2 (lt_r kCourse_endFault) (lt_b kCourse_endFault) (pc_Course_endFault) (pc_Course_endFault 5) (i_Course_endFault_5) = true := by decide +kernel
theorem fit_Course_endFault_6 : sm_fit (lt_R kCourse_endFault) (lt_n kCourse_endFault) (lt_fl kCourse_endFault).1 (lt_fl kCourse_endFault).2 (lt_r kCourse_endFault) (lt_b kCourse_endFault) (pc_Course_endFault) (pc_Course_endFault 6) (i_Course_endFault_6) = true := by decide +kernel
theorem fit_Course_endFault_7 : sm_fit (lt_R kCourse_endFault) (lt_n kCourse_endFault) (lt_fl kCourse_endFault).1 (lt_fl kCourse_endFault).2 (lt_r kCourse_endFault) (lt_b kCourse_endFault) (pc_Course_endFault) (pc_Course_endFault 7) (i_Course_endFault_7) = true := by decide +kernel
theorem fit_Course_endFault_8 : sm_fit (lt_R kCourse_endFault) (lt_n kCourse_endFault) (lt_fl kCourse_endFault).1 (lt_fl kCourse_endFault).2 (lt_r kCourse_endFault) (lt_b kCourse_endFault) (pc_Course_endFault) (pc_Course_endFault 8) (i_Course_endFault_8) = true := by decide +kernel
theorem fit_Course_endFault_9 : sm_fit (lt_R kCourse_endFault) (lt_n kCourse_endFault) (lt_fl kCourse_endFault).1 (lt_fl kCourse_endFault).2 (lt_r kCourse_endFault) (lt_b kCourse_endFault) (pc_Course_endFault) (pc_Course_endFault 9) (i_Course_endFault_9) = true := by decide +kernel
theorem fit_Course_endFault_10 : sm_fit (lt_R kCourse_endFault) (lt_n kCourse_endFault) (lt_fl kCourse_endFault).1 (lt_fl kCourse_endFault).2 (lt_r kCourse_endFault) (lt_b kCourse_endFault) (pc_Course_endFault) (pc_Course_endFault 10) (i_Course_endFault_10) = true := by decide +kernel
theorem fit_Course_endFault_11 : sm_fit (lt_R kCourse_endFault) (lt_n kCourse_endFault) (lt_fl kCourse_endFault).1 (lt_fl kCourse_endFault).2 (lt_r kCourse_endFault) (lt_b kCourse_endFault) (pc_Course_endFault) (pc_Course_endFault 11) (i_Course_endFault_11) = true := by decide +kernel
theorem fit_Course_faultAt_0 : sm_fit (lt_R kCourse_faultAt) (lt_n kCourse_faultAt) (lt_fl kCourse_faultAt).1 (lt_fl kCourse_faultAt).2 (lt_r kCourse_faultAt) (lt_b kCourse_faultAt) (pc_Course_faultAt) (pc_Course_faultAt 0) (i_Course_faultAt_0) = true := by decide +kernel
theorem fit_Course_faultAt_1 : sm_fit (lt_R kCourse_faultAt) (lt_n kCourse_faultAt) (lt_fl kCourse_faultAt).1 (lt_fl kCourse_faultAt).2 (lt_r kCourse_faultAt) (lt_b kCourse_faultAt) (pc_Course_faultAt) (pc_Course_faultAt 1) (i_Course_faultAt_1) = true := by decide +kernel
theorem fit_Course_faultAt_2 : sm_fit (lt_R kCourse_faultAt) (lt_n kCourse_faultAt) (lt_fl kCourse_faultAt).1 (lt_fl kCourse_faultAt).2 (lt_r kCourse_faultAt) (lt_b kCourse_faultAt) (pc_Course_faultAt) (pc_Course_faultAt 2) (i_Course_faultAt_2) = true := by decide +kernel
theorem fit_Course_faultAt_3 : sm_fit (lt_R kCourse_faultAt) (lt_n kCourse_faultAt) (lt_fl kCourse_faultAt).1 (lt_fl kCourse_faultAt).2 (lt_r kCourse_faultAt) (lt_b kCourse_faultAt) (pc_Course_faultAt) (pc_Course_faultAt 3) (i_Course_faultAt_3) = true := by decide +kernel
theorem fit_Course_faultAt_4 : sm_fit (lt_R kCourse_faultAt) (lt_n kCourse_faultAt) (lt_fl kCourse_faultAt).1 (lt_fl kCourse_faultAt).2 (lt_r kCourse_faultAt) (lt_b kCourse_faultAt) (pc_Course_faultAt) (pc_Course_faultAt 4) (i_Course_faultAt_4) = true := by decide +kernel
theorem fit_Course_faultAt_5 : sm_fit (lt_R kCourse_faultAt) (lt_n kCourse_faultAt) (lt_fl kCourse_faultAt).1 (lt_fl kCourse_faultAt).2 (lt_r kCourse_faultAt) (lt_b kCourse_faultAt) (pc_Course_faultAt) (pc_Course_faultAt 5) (i_Course_faultAt_5) = true := by decide +kernel
theorem fit_Course_faultAt_6 : sm_fit (lt_R kCourse_faultAt) (lt_n kCourse_faultAt) (lt_fl kCourse_faultAt).1 (lt_fl kCourse_faultAt).2 (lt_r kCourse_faultAt) (lt_b kCourse_faultAt) (pc_Course_faultAt) (pc_Course_faultAt 6) (i_Course_faultAt_6) = true := by decide +kernel
theorem fit_Course_faultAt_7 : sm_fit (lt_R kCourse_faultAt) (lt_n kCourse_faultAt) (lt_fl kCourse_faultAt).1 (lt_fl kCourse_faultAt).2 (lt_r kCourse_faultAt) (lt_b kCourse_faultAt) (pc_Course_faultAt) (pc_Course_faultAt 7) (i_Course_faultAt_7) = true := by decide +kernel
theorem fit_Course_faultAt_8 : sm_fit (lt_R kCourse_faultAt) (lt_n kCourse_faultAt) (lt_fl kCourse_faultAt).1 (lt_fl kCourse_faultAt).2 (lt_r kCourse_faultAt) (lt_b kCourse_faultAt) (pc_Course_faultAt) (pc_Course_faultAt 8) (i_Course_faultAt_8) = true := by decide +kernel
theorem fit_Course_faultAt_9 : sm_fit (lt_R kCourse_faultAt) (lt_n kCourse_faultAt) (lt_fl kCourse_faultAt).1 (lt_fl kCourse_faultAt).2 (lt_r kCourse_faultAt) (lt_b kCourse_faultAt) (pc_Course_faultAt) (pc_Course_faultAt 9) (i_Course_faultAt_9) = true := by decide +kernel
theorem fit_Course_faultAt_10 : sm_fit (lt_R kCourse_faultAt) (lt_n kCourse_faultAt) (lt_fl kCourse_faultAt).1 (lt_fl kCourse_faultAt).2 (lt_r kCourse_faultAt) (lt_b kCourse_faultAt) (pc_Course_faultAt) (pc_Course_faultAt 10) (i_Course_faultAt_10) = true := by decide +kernel
theorem fit_Course_faultAt_11 : sm_fit (lt_R kCourse_faultAt) (lt_n kCourse_faultAt) (lt_fl kCourse_faultAt).1 (lt_fl kCourse_faultAt).2 (lt_r kCourse_faultAt) (lt_b kCourse_faultAt) (pc_Course_faultAt) (pc_Course_faultAt 11) (i_Course_faultAt_11) = true := by decide +kernel
theorem fit_Course_faultAt_12 : sm_fit (lt_R kCourse_faultAt) (lt_n kCourse_faultAt) (lt_fl kCourse_faultAt).1 (lt_fl kCourse_faultAt).2 (lt_r kCourse_faultAt) (lt_b kCourse_faultAt) (pc_Course_faultAt) (pc_Course_faultAt 12) (i_Course_faultAt_12) = true := by decide +kernel
theorem fit_Course_faultAt_13 : sm_fit (lt_R kCourse_faultAt) (lt_n kCourse_faultAt) (lt_fl kCourse_faultAt).1 (lt_fl kCourse_faultAt).2 (lt_r kCourse_faultAt) (lt_b kCourse_faultAt) (pc_Course_faultAt) (pc_Course_faultAt 13) (i_Course_faultAt_13) = true := by decide +kernel
theorem fit_Course_faultAt_14 : sm_fit (lt_R kCourse_faultAt) (lt_n kCourse_faultAt) (lt_fl kCourse_faultAt).1 (lt_fl kCourse_faultAt).2 (lt_r kCourse_faultAt) (lt_b kCourse_faultAt) (pc_Course_faultAt) (pc_Course_faultAt 14) (i_Course_faultAt_14) = true := by decide +kernel
theorem fit_Course_faultAt_15 : sm_fit (lt_R kCourse_faultAt) (lt_n kCourse_faultAt) (lt_fl kCourse_faultAt).1 (lt_fl kCourse_faultAt).2 (lt_r kCourse_faultAt) (lt_b kCourse_faultAt) (pc_Course_faultAt) (pc_Course_faultAt 15) (i_Course_faultAt_15) = true := by decide +kernel
theorem fit_Course_faultAt_16 : sm_fit (lt_R kCourse_faultAt) (lt_n kCourse_faultAt) (lt_fl kCourse_faultAt).1 (lt_fl kCourse_faultAt).2 (lt_r kCourse_faultAt) (lt_b kCourse_faultAt) (pc_Course_faultAt) (pc_Course_faultAt 16) (i_Course_faultAt_16) = true := by decide +kernel
theorem fit_Course_faultAt_17 : sm_fit (lt_R kCourse_faultAt) (lt_n kCourse_faultAt) (lt_fl kCourse_faultAt).1 (lt_fl kCourse_faultAt).2 (lt_r kCourse_faultAt) (lt_b kCourse_faultAt) (pc_Course_faultAt) (pc_Course_faultAt 17) (i_Course_faultAt_17) = true := by decide +kernel
theorem fit_Course_faultAt_18 : sm_fit (lt_R kCourse_faultAt) (lt_n kCourse_faultAt) (lt_fl kCourse_faultAt).1 (lt_fl kCourse_faultAt).2 (lt_r kCourse_faultAt) (lt_b kCourse_faultAt) (pc_Course_faultAt) (pc_Course_faultAt 18) (i_Course_faultAt_18) = true := by decide +kernel
theorem fit_Course_faultAt_19 : sm_fit (lt_R kCourse_faultAt) (lt_n kCourse_faultAt) (lt_fl kCourse_faultAt).1 (lt_fl kCourse_faultAt).2 (lt_r kCourse_faultAt) (lt_b kCourse_faultAt) (pc_Course_faultAt) (pc_Course_faultAt 19) (i_Course_faultAt_19) = true := by decide +kernel
theorem fit_Course_faultAt_20 : sm_fit (lt_R kCourse_faultAt) (lt_n kCourse_faultAt) (lt_fl kCourse_faultAt).1 (lt_fl kCourse_faultAt).2 (lt_r kCourse_faultAt) (lt_b kCourse_faultAt) (pc_Course_faultAt) (pc_Course_faultAt 20) (i_Course_faultAt_20) = true := by decide +kernel
theorem fit_Course_faultAt_21 : sm_fit (lt_R kCourse_faultAt) (lt_n kCourse_faultAt) (lt_fl kCourse_faultAt).1 (lt_fl kCourse_faultAt).2 (lt_r kCourse_faultAt) (lt_b kCourse_faultAt) (pc_Course_faultAt) (pc_Course_faultAt 21) (i_Course_faultAt_21) = true := by decide +kernel
theorem fit_Course_faultAt_22 : sm_fit (lt_R kCourse_faultAt) (lt_n kCourse_faultAt) (lt_fl kCourse_faultAt).1 (lt_fl kCourse_faultAt).2 (lt_r kCourse_faultAt) (lt_b kCourse_faultAt) (pc_Course_faultAt) (pc_Course_faultAt 22) (i_Course_faultAt_22) = true := by decide +kernel
theorem fit_Course_faultAt_23 : sm_fit (lt_R kCourse_faultAt) (lt_n kCourse_faultAt) (lt_fl kCourse_faultAt).1 (lt_fl kCourse_faultAt).2 (lt_r kCourse_faultAt) (lt_b kCourse_faultAt) (pc_Course_faultAt) (pc_Course_faultAt 23) (i_Course_faultAt_23) = true := by decide +kernel
theorem fit_Course_kindAt_0 : sm_fit (lt_R kCourse_kindAt) (lt_n kCourse_kindAt) (lt_fl kCourse_kindAt).1 (lt_fl kCourse_kindAt).2 (lt_r kCourse_kindAt) (lt_b kCourse_kindAt) (pc_Course_kindAt) (pc_Course_kindAt 0) (i_Course_kindAt_0) = true := by decide +kernel
theorem fit_Course_messageFault_0 : sm_fit (lt_R kCourse_messageFault) (lt_n kCourse_messageFault) (lt_fl kCourse_messageFault).1 (lt_fl kCourse_messageFault).2 (lt_r kCourse_messageFault) (lt_b kCourse_messageFault) (pc_Course_messageFault) (pc_Course_messageFault 0) (i_Course_messageFault_0) = true := by decide +kernel
theorem fit_Course_messageFault_1 : sm_fit (lt_R kCourse_messageFault) (lt_n kCourse_messageFault) (lt_fl kCourse_messageFault).1 (lt_fl kCourse_messageFault).2 (lt_r kCourse_messageFault) (lt_b kCourse_messageFault) (pc_Course_messageFault) (pc_Course_messageFault 1) (i_Course_messageFault_1) = true := by decide +kernel
theorem fit_Course_messageFault_2 : sm_fit (lt_R kCourse_messageFault) (lt_n kCourse_messageFault) (lt_fl kCourse_messageFault).1 (lt_fl kCourse_messageFault).2 (lt_r kCourse_messageFault) (lt_b kCourse_messageFault) (pc_Course_messageFault) (pc_Course_messageFault 2) (i_Course_messageFault_2) = true := by decide +kernel
theorem fit_Course_messageFault_3 : sm_fit (lt_R kCourse_messageFault) (lt_n kCourse_messageFault) (lt_fl kCourse_messageFault).1 (lt_fl kCourse_messageFault).2 (lt_r kCourse_messageFault) (lt_b kCourse_messageFault) (pc_Course_messageFault) (pc_Course_messageFault 3) (i_Course_messageFault_3) = true := by decide +kernel
theorem fit_Course_messageFault_4 : sm_fit (lt_R kCourse_messageFault) (lt_n kCourse_messageFault) (lt_fl kCourse_messageFault).1 (lt_fl kCourse_messageFault).2 (lt_r kCourse_messageFault) (lt_b kCourse_messageFault) (pc_Course_messageFault) (pc_Course_messageFault 4) (i_Course_messageFault_4) = true := by decide +kernel
theorem fit_Course_messageFault_5 : sm_fit (lt_R kCourse_messageFault) (lt_n kCourse_messageFault) (lt_fl kCourse_messageFault).1 (lt_fl kCourse_messageFault).2 (lt_r kCourse_messageFault) (lt_b kCourse_messageFault) (pc_Course_messageFault) (pc_Course_messageFault 5) (i_Course_messageFault_5) = true := by decide +kernel
theorem fit_Course_messageFault_6 : sm_fit (lt_R kCourse_messageFault) (lt_n kCourse_messageFault) (lt_fl kCourse_messageFault).1 (lt_fl kCourse_messageFault).2 (lt_r kCourse_messageFault) (lt_b kCourse_messageFault) (pc_Course_messageFault) (pc_Course_messageFault 6) (i_Course_messageFault_6) = true := by decide +kernel
theorem fit_Course_messageFault_7 : sm_fit (lt_R kCourse_messageFault) (lt_n kCourse_messageFault) (lt_fl kCourse_messageFault).1 (lt_fl kCourse_messageFault).2 (lt_r kCourse_messageFault) (lt_b kCourse_messageFault) (pc_Course_messageFault) (pc_Course_messageFault 7) (i_Course_messageFault_7) = true := by decide +kernel
theorem fit_Course_messageFault_8 : sm_fit (lt_R kCourse_messageFault) (lt_n kCourse_messageFault) (lt_fl kCourse_messageFault).1 (lt_fl kCourse_messageFault).2 (lt_r kCourse_messageFault) (lt_b kCourse_messageFault) (pc_Course_messageFault) (pc_Course_messageFault 8) (i_Course_messageFault_8) = true := by decide +kernel
theorem fit_Course_messageFault_9 : sm_fit (lt_R kCourse_messageFault) (lt_n kCourse_messageFault) (lt_fl kCourse_messageFault).1 (lt_fl kCourse_messageFault).2 (lt_r kCourse_messageFault) (lt_b kCourse_messageFault) (pc_Course_messageFault) (pc_Course_messageFault 9) (i_Course_messageFault_9) = true := by decide +kernel
theorem fit_Course_messageFault_10 : sm_fit (lt_R kCourse_messageFault) (lt_n kCourse_messageFault) (lt_fl kCourse_messageFault).1 (lt_fl kCourse_messageFault).2 (lt_r kCourse_messageFault) (lt_b kCourse_messageFault) (pc_Course_messageFault) (pc_Course_messageFault 10) (i_Course_messageFault_10) = true := by decide +kernel
theorem fit_Course_messageFault_11 : sm_fit (lt_R kCourse_messageFault) (lt_n kCourse_messageFault) (lt_fl kCourse_messageFault).1 (lt_fl kCourse_messageFault).2 (lt_r kCourse_messageFault) (lt_b kCourse_messageFault) (pc_Course_messageFault) (pc_Course_messageFault 11) (i_Course_messageFault_11) = true := by decide +kernel
theorem fit_Course_messageFault_12 : sm_fit (lt_R kCourse_messageFault) (lt_n kCourse_messageFault) (lt_fl kCourse_messageFault).1 (lt_fl kCourse_messageFault).2 (lt_r kCourse_messageFault) (lt_b kCourse_messageFault) (pc_Course_messageFault) (pc_Course_messageFault 12) (i_Course_messageFault_12) = true := by decide +kernel
theorem fit_Course_messageFault_13 : sm_fit (lt_R kCourse_messageFault) (lt_n kCourse_messageFault) (lt_fl kCourse_messageFault).1 (lt_fl kCourse_messageFault).2 (lt_r kCourse_messageFault) (lt_b kCourse_messageFault) (pc_Course_messageFault) (pc_Course_messageFault 13) (i_Course_messageFault_13) = true := by decide +kernel
theorem fit_Course_messageFault_14 : sm_fit (lt_R kCourse_messageFault) (lt_n kCourse_messageFault) (lt_fl kCourse_messageFault).1 (lt_fl kCourse_messageFault).2 (lt_r kCourse_messageFault) (lt_b kCourse_messageFault) (pc_Course_messageFault) (pc_Course_messageFault 14) (i_Course_messageFault_14) = true := by decide +kernel
theorem fit_Course_messageFault_15 : sm_fit (lt_R kCourse_messageFault) (lt_n kCourse_messageFault) (lt_fl kCourse_messageFault).1 (lt_fl kCourse_messageFault).2 (lt_r kCourse_messageFault) (lt_b kCourse_messageFault) (pc_Course_messageFault) (pc_Course_messageFault 15) (i_Course_messageFault_15) = true := by decide +kernel
theorem fit_Course_dropWaiting_0 : sm_fit (lt_R kCourse_dropWaiting) (lt_n kCourse_dropWaiting) (lt_fl kCourse_dropWaiting).1 (lt_fl kCourse_dropWaiting).2 (lt_r kCourse_dropWaiting) (lt_b kCourse_dropWaiting) (pc_Course_dropWaiting) (pc_Course_dropWaiting 0) (i_Course_dropWaiting_0) = true := by decide +kernel
theorem fit_Course_dropWaiting_1 : sm_fit (lt_R kCourse_dropWaiting) (lt_n kCourse_dropWaiting) (lt_fl kCourse_dropWaiting).1 (lt_fl kCourse_dropWaiting).2 (lt_r kCourse_dropWaiting) (lt_b kCourse_dropWaiting) (pc_Course_dropWaiting) (pc_Course_dropWaiting 1) (i_Course_dropWaiting_1) = true := by decide +kernel
theorem fit_Course_dropWaiting_2 : sm_fit (lt_R kCourse_dropWaiting) (lt_n kCourse_dropWaiting) (lt_fl kCourse_dropWaiting).1 (lt_fl kCourse_dropWaiting).2 (lt_r kCourse_dropWaiting) (lt_b kCourse_dropWaiting) (pc_Course_dropWaiting) (pc_Course_dropWaiting 2) (i_Course_dropWaiting_2) = true := by decide +kernel
theorem fit_Course_dropWaiting_3 : sm_fit (lt_R kCourse_dropWaiting) (lt_n kCourse_dropWaiting) (lt_fl kCourse_dropWaiting).1 (lt_fl kCourse_dropWaiting).2 (lt_r kCourse_dropWaiting) (lt_b kCourse_dropWaiting) (pc_Course_dropWaiting) (pc_Course_dropWaiting 3) (i_Course_dropWaiting_3) = true := by decide +kernel
theorem fit_Course_dropWaiting_4 : sm_fit (lt_R kCourse_dropWaiting) (lt_n kCourse_dropWaiting) (lt_fl kCourse_dropWaiting).1 (lt_fl kCourse_dropWaiting).2 (lt_r kCourse_dropWaiting) (lt_b kCourse_dropWaiting) (pc_Course_dropWaiting) (pc_Course_dropWaiting 4) (i_Course_dropWaiting_4) = true := by decide +kernel
theorem fit_Course_dropWaiting_5 : sm_fit (lt_R kCourse_dropWaiting) (lt_n kCourse_dropWaiting) (lt_fl kCourse_dropWaiting).1 (lt_fl kCourse_dropWaiting).2 (lt_r kCourse_dropWaiting) (lt_b kCourse_dropWaiting) (pc_Course_dropWaiting) (pc_Course_dropWaiting 5) (i_Course_dropWaiting_5) = true := by decide +kernel
theorem fit_Course_dropWaiting_6 : sm_fit (lt_R kCourse_dropWaiting) (lt_n kCourse_dropWaiting) (lt_fl kCourse_dropWaiting).1 (lt_fl kCourse_dropWaiting).2 (lt_r kCourse_dropWaiting) (lt_b kCourse_dropWaiting) (pc_Course_dropWaiting) (pc_Course_dropWaiting 6) (i_Course_dropWaiting_6) = true := by decide +kernel
theorem fit_Course_dropWaiting_7 : sm_fit (lt_R kCourse_dropWaiting) (lt_n kCourse_dropWaiting) (lt_fl kCourse_dropWaiting).1 (lt_fl kCourse_dropWaiting).2 (lt_r kCourse_dropWaiting) (lt_b kCourse_dropWaiting) (pc_Course_dropWaiting) (pc_Course_dropWaiting 7) (i_Course_dropWaiting_7) = true := by decide +kernel
theorem fit_Course_dropWaiting_8 : sm_fit (lt_R kCourse_dropWaiting) (lt_n kCourse_dropWaiting) (lt_fl kCourse_dropWaiting).1 (lt_fl kCourse_dropWaiting).2 (lt_r kCourse_dropWaiting) (lt_b kCourse_dropWaiting) (pc_Course_dropWaiting) (pc_Course_dropWaiting 8) (i_Course_dropWaiting_8) = true := by decide +kernel
theorem fit_Course_perform_0 : sm_fit (lt_R kCourse_perform) (lt_n kCourse_perform) (lt_fl kCourse_perform).1 (lt_fl kCourse_perform).2 (lt_r kCourse_perform) (lt_b kCourse_perform) (pc_Course_perform) (pc_Course_perform 0) (i_Course_perform_0) = true := by decide +kernel
theorem fit_Course_perform_1 : sm_fit (lt_R kCourse_perform) (lt_n kCourse_perform) (lt_fl kCourse_perform).1 (lt_fl kCourse_perform).2 (lt_r kCourse_perform) (lt_b kCourse_perform) (pc_Course_perform) (pc_Course_perform 1) (i_Course_perform_1) = true := by decide +kernel
theorem fit_Course_perform_2 : sm_fit (lt_R kCourse_perform) (lt_n kCourse_perform) (lt_fl kCourse_perform).1 (lt_fl kCourse_perform).2 (lt_r kCourse_perform) (lt_b kCourse_perform) (pc_Course_perform) (pc_Course_perform 2) (i_Course_perform_2) = true := by decide +kernel
theorem fit_Course_perform_3 : sm_fit (lt_R kCourse_perform) (lt_n kCourse_perform) (lt_fl kCourse_perform).1 (lt_fl kCourse_perform).2 (lt_r kCourse_perform) (lt_b kCourse_perform) (pc_Course_perform) (pc_Course_perform 3) (i_Course_perform_3) = true := by decide +kernel
theorem fit_Course_perform_4 : sm_fit (lt_R kCourse_perform) (lt_n kCourse_perform) (lt_fl kCourse_perform).1 (lt_fl kCourse_perform).2 (lt_r kCourse_perform) (lt_b kCourse_perform) (pc_Course_perform) (pc_Course_perform 4) (i_Course_perform_4) = true := by decide +kernel
theorem fit_Course_perform_5 : sm_fit (lt_R kCourse_perform) (lt_n kCourse_perform) (lt_fl kCourse_perform).1 (lt_fl kCourse_perform).2 (lt_r kCourse_perform) (lt_b kCourse_perform) (pc_Course_perform) (pc_Course_perform 5) (i_Course_perform_5) = true := by decide +kernel
theorem fit_Course_perform_6 : sm_fit (lt_R kCourse_perform) (lt_n kCourse_perform) (lt_fl kCourse_perform).1 (lt_fl kCourse_perform).2 (lt_r kCourse_perform) (lt_b kCourse_perform) (pc_Course_perform) (pc_Course_perform 6) (i_Course_perform_6) = true := by decide +kernel
theorem fit_Course_perform_7 : sm_fit (lt_R kCourse_perform) (lt_n kCourse_perform) (lt_fl kCourse_perform).1 (lt_fl kCourse_perform).2 (lt_r kCourse_perform) (lt_b kCourse_perform) (pc_Course_perform) (pc_Course_perform 7) (i_Course_perform_7) = true := by decide +kernel
theorem fit_Course_perform_8 : sm_fit (lt_R kCourse_perform) (lt_n kCourse_perform) (lt_fl kCourse_perform).1 (lt_fl kCourse_perform).2 (lt_r kCourse_perform) (lt_b kCourse_perform) (pc_Course_perform) (pc_Course_perform 8) (i_Course_perform_8) = true := by decide +kernel
theorem fit_Course_perform_9 : sm_fit (lt_R kCourse_perform) (lt_n kCourse_perform) (lt_fl kCourse_perform).1 (lt_fl kCourse_perform).2 (lt_r kCourse_perform) (lt_b kCourse_perform) (pc_Course_perform) (pc_Course_perform 9) (i_Course_perform_9) = true := by decide +kernel
theorem fit_Course_perform_10 : sm_fit (lt_R kCourse_perform) (lt_n kCourse_perform) (lt_fl kCourse_perform).1 (lt_fl kCourse_perform).2 (lt_r kCourse_perform) (lt_b kCourse_perform) (pc_Course_perform) (pc_Course_perform 10) (i_Course_perform_10) = true := by decide +kernel
theorem fit_Course_perform_11 : sm_fit (lt_R kCourse_perform) (lt_n kCourse_perform) (lt_fl kCourse_perform).1 (lt_fl kCourse_perform).2 (lt_r kCourse_perform) (lt_b kCourse_perform) (pc_Course_perform) (pc_Course_perform 11) (i_Course_perform_11) = true := by decide +kernel
theorem fit_Course_perform_12 : sm_fit (lt_R kCourse_perform) (lt_n kCourse_perform) (lt_fl kCourse_perform).1 (lt_fl kCourse_perform).2 (lt_r kCourse_perform) (lt_b kCourse_perform) (pc_Course_perform) (pc_Course_perform 12) (i_Course_perform_12) = true := by decide +kernel
theorem fit_Course_perform_13 : sm_fit (lt_R kCourse_perform) (lt_n kCourse_perform) (lt_fl kCourse_perform).1 (lt_fl kCourse_perform).2 (lt_r kCourse_perform) (lt_b kCourse_perform) (pc_Course_perform) (pc_Course_perform 13) (i_Course_perform_13) = true := by decide +kernel
theorem fit_Course_perform_14 : sm_fit (lt_R kCourse_perform) (lt_n kCourse_perform) (lt_fl kCourse_perform).1 (lt_fl kCourse_perform).2 (lt_r kCourse_perform) (lt_b kCourse_perform) (pc_Course_perform) (pc_Course_perform 14) (i_Course_perform_14) = true := by decide +kernel
theorem fit_Course_perform_15 : sm_fit (lt_R kCourse_perform) (lt_n kCourse_perform) (lt_fl kCourse_perform).1 (lt_fl kCourse_perform).2 (lt_r kCourse_perform) (lt_b kCourse_perform) (pc_Course_perform) (pc_Course_perform 15) (i_Course_perform_15) = true := by decide +kernel
theorem fit_Course_perform_16 : sm_fit (lt_R kCourse_perform) (lt_n kCourse_perform) (lt_fl kCourse_perform).1 (lt_fl kCourse_perform).2 (lt_r kCourse_perform) (lt_b kCourse_perform) (pc_Course_perform) (pc_Course_perform 16) (i_Course_perform_16) = true := by decide +kernel
theorem fit_Course_perform_17 : sm_fit (lt_R kCourse_perform) (lt_n kCourse_perform) (lt_fl kCourse_perform).1 (lt_fl kCourse_perform).2 (lt_r kCourse_perform) (lt_b kCourse_perform) (pc_Course_perform) (pc_Course_perform 17) (i_Course_perform_17) = true := by decide +kernel
theorem fit_Course_perform_18 : sm_fit (lt_R kCourse_perform) (lt_n kCourse_perform) (lt_fl kCourse_perform).1 (lt_fl kCourse_perform).2 (lt_r kCourse_perform) (lt_b kCourse_perform) (pc_Course_perform) (pc_Course_perform 18) (i_Course_perform_18) = true := by decide +kernel
theorem fit_Course_perform_19 : sm_fit (lt_R kCourse_perform) (lt_n kCourse_perform) (lt_fl kCourse_perform).1 (lt_fl kCourse_perform).2 (lt_r kCourse_perform) (lt_b kCourse_perform) (pc_Course_perform) (pc_Course_perform 19) (i_Course_perform_19) = true := by decide +kernel
theorem fit_Course_perform_20 : sm_fit (lt_R kCourse_perform) (lt_n kCourse_perform) (lt_fl kCourse_perform).1 (lt_fl kCourse_perform).2 (lt_r kCourse_perform) (lt_b kCourse_perform) (pc_Course_perform) (pc_Course_perform 20) (i_Course_perform_20) = true := by decide +kernel
theorem fit_Course_perform_21 : sm_fit (lt_R kCourse_perform) (lt_n kCourse_perform) (lt_fl kCourse_perform).1 (lt_fl kCourse_perform).2 (lt_r kCourse_perform) (lt_b kCourse_perform) (pc_Course_perform) (pc_Course_perform 21) (i_Course_perform_21) = true := by decide +kernel
theorem fit_Course_perform_22 : sm_fit (lt_R kCourse_perform) (lt_n kCourse_perform) (lt_fl kCourse_perform).1 (lt_fl kCourse_perform).2 (lt_r kCourse_perform) (lt_b kCourse_perform) (pc_Course_perform) (pc_Course_perform 22) (i_Course_perform_22) = true := by decide +kernel
theorem fit_Course_perform_23 : sm_fit (lt_R kCourse_perform) (lt_n kCourse_perform) (lt_fl kCourse_perform).1 (lt_fl kCourse_perform).2 (lt_r kCourse_perform) (lt_b kCourse_perform) (pc_Course_perform) (pc_Course_perform 23) (i_Course_perform_23) = true := by decide +kernel
theorem fit_Course_post_0 : sm_fit (lt_R kCourse_post) (lt_n kCourse_post) (lt_fl kCourse_post).1 (lt_fl kCourse_post).2 (lt_r kCourse_post) (lt_b kCourse_post) (pc_Course_post) (pc_Course_post 0) (i_Course_post_0) = true := by decide +kernel
theorem fit_Course_post_1 : sm_fit (lt_R kCourse_post) (lt_n kCourse_post) (lt_fl kCourse_post).1 (lt_fl kCourse_post).2 (lt_r kCourse_post) (lt_b kCourse_post) (pc_Course_post) (pc_Course_post 1) (i_Course_post_1) = true := by decide +kernel
theorem fit_Course_post_2 : sm_fit (lt_R kCourse_post) (lt_n kCourse_post) (lt_fl kCourse_post).1 (lt_fl kCourse_post).2 (lt_r kCourse_post) (lt_b kCourse_post) (pc_Course_post) (pc_Course_post 2) (i_Course_post_2) = true := by decide +kernel
theorem fit_Course_post_3 : sm_fit (lt_R kCourse_post) (lt_n kCourse_post) (lt_fl kCourse_post).1 (lt_fl kCourse_post).2 (lt_r kCourse_post) (lt_b kCourse_post) (pc_Course_post) (pc_Course_post 3) (i_Course_post_3) = true := by decide +kernel
theorem fit_Course_post_4 : sm_fit (lt_R kCourse_post) (lt_n kCourse_post) (lt_fl kCourse_post).1 (lt_fl kCourse_post).2 (lt_r kCourse_post) (lt_b kCourse_post) (pc_Course_post) (pc_Course_post 4) (i_Course_post_4) = true := by decide +kernel
theorem fit_Course_post_5 : sm_fit (lt_R kCourse_post) (lt_n kCourse_post) (lt_fl kCourse_post).1 (lt_fl kCourse_post).2 (lt_r kCourse_post) (lt_b kCourse_post) (pc_Course_post) (pc_Course_post 5) (i_Course_post_5) = true := by decide +kernel
theorem fit_Course_post_6 : sm_fit (lt_R kCourse_post) (lt_n kCourse_post) (lt_fl kCourse_post).1 (lt_fl kCourse_post).2 (lt_r kCourse_post) (lt_b kCourse_post) (pc_Course_post) (pc_Course_post 6) (i_Course_post_6) = true := by decide +kernel
theorem fit_Course_post_7 : sm_fit (lt_R kCourse_post) (lt_n kCourse_post) (lt_fl kCourse_post).1 (lt_fl kCourse_post).2 (lt_r kCourse_post) (lt_b kCourse_post) (pc_Course_post) (pc_Course_post 7) (i_Course_post_7) = true := by decide +kernel
theorem fit_Course_receive_0 : sm_fit (lt_R kCourse_receive) (lt_n kCourse_receive) (lt_fl kCourse_receive).1 (lt_fl kCourse_receive).2 (lt_r kCourse_receive) (lt_b kCourse_receive) (pc_Course_receive) (pc_Course_receive 0) (i_Course_receive_0) = true := by decide +kernel
theorem fit_Course_receive_1 : sm_fit (lt_R kCourse_receive) (lt_n kCourse_receive) (lt_fl kCourse_receive).1 (lt_fl kCourse_receive).2 (lt_r kCourse_receive) (lt_b kCourse_receive) (pc_Course_receive) (pc_Course_receive 1) (i_Course_receive_1) = true := by decide +kernel
theorem fit_Course_receive_2 : sm_fit (lt_R kCourse_receive) (lt_n kCourse_receive) (lt_fl kCourse_receive).1 (lt_fl kCourse_receive).2 (lt_r kCourse_receive) (lt_b kCourse_receive) (pc_Course_receive) (pc_Course_receive 2) (i_Course_receive_2) = true := by decide +kernel
theorem fit_Course_receive_3 : sm_fit (lt_R kCourse_receive) (lt_n kCourse_receive) (lt_fl kCourse_receive).1 (lt_fl kCourse_receive).2 (lt_r kCourse_receive) (lt_b kCourse_receive) (pc_Course_receive) (pc_Course_receive 3) (i_Course_receive_3) = true := by decide +kernel
theorem fit_Course_receive_4 : sm_fit (lt_R kCourse_receive) (lt_n kCourse_receive) (lt_fl kCourse_receive).1 (lt_fl kCourse_receive).2 (lt_r kCourse_receive) (lt_b kCourse_receive) (pc_Course_receive) (pc_Course_receive 4) (i_Course_receive_4) = true := by decide +kernel
theorem fit_Course_receive_5 : sm_fit (lt_R kCourse_receive) (lt_n kCourse_receive) (lt_fl kCourse_receive).1 (lt_fl kCourse_receive).2 (lt_r kCourse_receive) (lt_b kCourse_receive) (pc_Course_receive) (pc_Course_receive 5) (i_Course_receive_5) = true := by decide +kernel
theorem fit_Flow_forget_0 : sm_fit (lt_R kFlow_forget) (lt_n kFlow_forget) (lt_fl kFlow_forget).1 (lt_fl kFlow_forget).2 (lt_r kFlow_forget) (lt_b kFlow_forget) (pc_Flow_forget) (pc_Flow_forget 0) (i_Flow_forget_0) = true := by decide +kernel
theorem fit_Flow_find_0 : sm_fit (lt_R kFlow_find) (lt_n kFlow_find) (lt_fl kFlow_find).1 (lt_fl kFlow_find).2 (lt_r kFlow_find) (lt_b kFlow_find) (pc_Flow_find) (pc_Flow_find 0) (i_Flow_find_0) = true := by decide +kernel
theorem fit_Flow_find_1 : sm_fit (lt_R kFlow_find) (lt_n kFlow_find) (lt_fl kFlow_find).1 (lt_fl kFlow_find).2 (lt_r kFlow_find) (lt_b kFlow_find) (pc_Flow_find) (pc_Flow_find 1) (i_Flow_find_1) = true := by decide +kernel
theorem fit_Flow_find_2 : sm_fit (lt_R kFlow_find) (lt_n kFlow_find) (lt_fl kFlow_find).1 (lt_fl kFlow_find).2 (lt_r kFlow_find) (lt_b kFlow_find) (pc_Flow_find) (pc_Flow_find 2) (i_Flow_find_2) = true := by decide +kernel
theorem fit_Flow_errorOp_0 : sm_fit (lt_R kFlow_errorOp) (lt_n kFlow_errorOp) (lt_fl kFlow_errorOp).1 (lt_fl kFlow_errorOp).2 (lt_r kFlow_errorOp) (lt_b kFlow_errorOp) (pc_Flow_errorOp) (pc_Flow_errorOp 0) (i_Flow_errorOp_0) = true := by decide +kernel
theorem fit_Flow_firstError_0 : sm_fit (lt_R kFlow_firstError) (lt_n kFlow_firstError) (lt_fl kFlow_firstError).1 (lt_fl kFlow_firstError).2 (lt_r kFlow_firstError) (lt_b kFlow_firstError) (pc_Flow_firstError) (pc_Flow_firstError 0) (i_Flow_firstError_0) = true := by decide +kernel
theorem fit_Flow_inTheWay_0 : sm_fit (lt_R kFlow_inTheWay) (lt_n kFlow_inTheWay) (lt_fl kFlow_inTheWay).1 (lt_fl kFlow_inTheWay).2 (lt_r kFlow_inTheWay) (lt_b kFlow_inTheWay) (pc_Flow_inTheWay) (pc_Flow_inTheWay 0) (i_Flow_inTheWay_0) = true := by decide +kernel
theorem fit_Flow_isComeTo_0 : sm_fit (lt_R kFlow_isComeTo) (lt_n kFlow_isComeTo) (lt_fl kFlow_isComeTo).1 (lt_fl kFlow_isComeTo).2 (lt_r kFlow_isComeTo) (lt_b kFlow_isComeTo) (pc_Flow_isComeTo) (pc_Flow_isComeTo 0) (i_Flow_isComeTo_0) = true := by decide +kernel
theorem fit_Flow_isComeTo_1 : sm_fit (lt_R kFlow_isComeTo) (lt_n kFlow_isComeTo) (lt_fl kFlow_isComeTo).1 (lt_fl kFlow_isComeTo).2 (lt_r kFlow_isComeTo) (lt_b kFlow_isComeTo) (pc_Flow_isComeTo) (pc_Flow_isComeTo 1) (i_Flow_isComeTo_1) = true := by decide +kernel
theorem fit_Flow_isComeTo_2 : sm_fit (lt_R kFlow_isComeTo) (lt_n kFlow_isComeTo) (lt_fl kFlow_isComeTo).1 (lt_fl kFlow_isComeTo).2 (lt_r kFlow_isComeTo) (lt_b kFlow_isComeTo) (pc_Flow_isComeTo) (pc_Flow_isComeTo 2) (i_Flow_isComeTo_2) = true := by decide +kernel
theorem fit_Flow_isComeTo_3 : sm_fit (lt_R kFlow_isComeTo) (lt_n kFlow_isComeTo) (lt_fl kFlow_isComeTo).1 (lt_fl kFlow_isComeTo).2 (lt_r kFlow_isComeTo) (lt_b kFlow_isComeTo) (pc_Flow_isComeTo) (pc_Flow_isComeTo 3) (i_Flow_isComeTo_3) = true := by decide +kernel
theorem fit_Flow_isComeTo_4 : sm_fit (lt_R kFlow_isComeTo) (lt_n kFlow_isComeTo) (lt_fl kFlow_isComeTo).1 (lt_fl kFlow_isComeTo).2 (lt_r kFlow_isComeTo) (lt_b kFlow_isComeTo) (pc_Flow_isComeTo) (pc_Flow_isComeTo 4) (i_Flow_isComeTo_4) = true := by decide +kernel
theorem fit_Flow_isComeTo_5 : sm_fit (lt_R kFlow_isComeTo) (lt_n kFlow_isComeTo) (lt_fl kFlow_isComeTo).1 (lt_fl kFlow_isComeTo).2 (lt_r kFlow_isComeTo) (lt_b kFlow_isComeTo) (pc_Flow_isComeTo) (pc_Flow_isComeTo 5) (i_Flow_isComeTo_5) = true := by decide +kernel
theorem fit_Flow_nameAt_0 : sm_fit (lt_R kFlow_nameAt) (lt_n kFlow_nameAt) (lt_fl kFlow_nameAt).1 (lt_fl kFlow_nameAt).2 (lt_r kFlow_nameAt) (lt_b kFlow_nameAt) (pc_Flow_nameAt) (pc_Flow_nameAt 0) (i_Flow_nameAt_0) = true := by decide +kernel
theorem fit_Flow_nameAt_1 : sm_fit (lt_R kFlow_nameAt) (lt_n kFlow_nameAt) (lt_fl kFlow_nameAt).1 (lt_fl kFlow_nameAt).2 (lt_r kFlow_nameAt) (lt_b kFlow_nameAt) (pc_Flow_nameAt) (pc_Flow_nameAt 1) (i_Flow_nameAt_1) = true := by decide +kernel
theorem fit_Flow_nameAt_2 : sm_fit (lt_R kFlow_nameAt) (lt_n kFlow_nameAt) (lt_fl kFlow_nameAt).1 (lt_fl kFlow_nameAt).2 (lt_r kFlow_nameAt) (lt_b kFlow_nameAt) (pc_Flow_nameAt) (pc_Flow_nameAt 2) (i_Flow_nameAt_2) = true := by decide +kernel
theorem fit_Flow_nameAt_3 : sm_fit (lt_R kFlow_nameAt) (lt_n kFlow_nameAt) (lt_fl kFlow_nameAt).1 (lt_fl kFlow_nameAt).2 (lt_r kFlow_nameAt) (lt_b kFlow_nameAt) (pc_Flow_nameAt) (pc_Flow_nameAt 3) (i_Flow_nameAt_3) = true := by decide +kernel
theorem fit_Flow_nameAt_4 : sm_fit (lt_R kFlow_nameAt) (lt_n kFlow_nameAt) (lt_fl kFlow_nameAt).1 (lt_fl kFlow_nameAt).2 (lt_r kFlow_nameAt) (lt_b kFlow_nameAt) (pc_Flow_nameAt) (pc_Flow_nameAt 4) (i_Flow_nameAt_4) = true := by decide +kernel
theorem fit_Flow_nameAt_5 : sm_fit (lt_R kFlow_nameAt) (lt_n kFlow_nameAt) (lt_fl kFlow_nameAt).1 (lt_fl kFlow_nameAt).2 (lt_r kFlow_nameAt) (lt_b kFlow_nameAt) (pc_Flow_nameAt) (pc_Flow_nameAt 5) (i_Flow_nameAt_5) = true := by decide +kernel
theorem fit_Flow_nameAt_6 : sm_fit (lt_R kFlow_nameAt) (lt_n kFlow_nameAt) (lt_fl kFlow_nameAt).1 (lt_fl kFlow_nameAt).2 (lt_r kFlow_nameAt) (lt_b kFlow_nameAt) (pc_Flow_nameAt) (pc_Flow_nameAt 6) (i_Flow_nameAt_6) = true := by decide +kernel
theorem fit_Flow_stepAt_0 : sm_fit (lt_R kFlow_stepAt) (lt_n kFlow_stepAt) (lt_fl kFlow_stepAt).1 (lt_fl kFlow_stepAt).2 (lt_r kFlow_stepAt) (lt_b kFlow_stepAt) (pc_Flow_stepAt) (pc_Flow_stepAt 0) (i_Flow_stepAt_0) = true := by decide +kernel
theorem fit_Flow_stepAt_1 : sm_fit (lt_R kFlow_stepAt) (lt_n kFlow_stepAt) (lt_fl kFlow_stepAt).1 (lt_fl kFlow_stepAt).2 (lt_r kFlow_stepAt) (lt_b kFlow_stepAt) (pc_Flow_stepAt) (pc_Flow_stepAt 1) (i_Flow_stepAt_1) = true := by decide +kernel
theorem fit_Flow_stepAt_2 : sm_fit (lt_R kFlow_stepAt) (lt_n kFlow_stepAt) (lt_fl kFlow_stepAt).1 (lt_fl kFlow_stepAt).2 (lt_r kFlow_stepAt) (lt_b kFlow_stepAt) (pc_Flow_stepAt) (pc_Flow_stepAt 2) (i_Flow_stepAt_2) = true := by decide +kernel
theorem fit_Flow_stepAt_3 : sm_fit (lt_R kFlow_stepAt) (lt_n kFlow_stepAt) (lt_fl kFlow_stepAt).1 (lt_fl kFlow_stepAt).2 (lt_r kFlow_stepAt) (lt_b kFlow_stepAt) (pc_Flow_stepAt) (pc_Flow_stepAt 3) (i_Flow_stepAt_3) = true := by decide +kernel
theorem fit_Flow_stepAt_4 : sm_fit (lt_R kFlow_stepAt) (lt_n kFlow_stepAt) (lt_fl kFlow_stepAt).1 (lt_fl kFlow_stepAt).2 (lt_r kFlow_stepAt) (lt_b kFlow_stepAt) (pc_Flow_stepAt) (pc_Flow_stepAt 4) (i_Flow_stepAt_4) = true := by decide +kernel
theorem fit_Flow_stepAt_5 : sm_fit (lt_R kFlow_stepAt) (lt_n kFlow_stepAt) (lt_fl kFlow_stepAt).1 (lt_fl kFlow_stepAt).2 (lt_r kFlow_stepAt) (lt_b kFlow_stepAt) (pc_Flow_stepAt) (pc_Flow_stepAt 5) (i_Flow_stepAt_5) = true := by decide +kernel
theorem fit_Flow_stepAt_6 : sm_fit (lt_R kFlow_stepAt) (lt_n kFlow_stepAt) (lt_fl kFlow_stepAt).1 (lt_fl kFlow_stepAt).2 (lt_r kFlow_stepAt) (lt_b kFlow_stepAt) (pc_Flow_stepAt) (pc_Flow_stepAt 6) (i_Flow_stepAt_6) = true := by decide +kernel
theorem fit_Flow_livesAt_0 : sm_fit (lt_R kFlow_livesAt) (lt_n kFlow_livesAt) (lt_fl kFlow_livesAt).1 (lt_fl kFlow_livesAt).2 (lt_r kFlow_livesAt) (lt_b kFlow_livesAt) (pc_Flow_livesAt) (pc_Flow_livesAt 0) (i_Flow_livesAt_0) = true := by decide +kernel
theorem fit_Flow_livesAt_1 : sm_fit (lt_R kFlow_livesAt) (lt_n kFlow_livesAt) (lt_fl kFlow_livesAt).1 (lt_fl kFlow_livesAt).2 (lt_r kFlow_livesAt) (lt_b kFlow_livesAt) (pc_Flow_livesAt) (pc_Flow_livesAt 1) (i_Flow_livesAt_1) = true := by decide +kernel
theorem fit_Flow_livesAt_2 : sm_fit (lt_R kFlow_livesAt) (lt_n kFlow_livesAt) (lt_fl kFlow_livesAt).1 (lt_fl kFlow_livesAt).2 (lt_r kFlow_livesAt) (lt_b kFlow_livesAt) (pc_Flow_livesAt) (pc_Flow_livesAt 2) (i_Flow_livesAt_2) = true := by decide +kernel
theorem fit_Flow_livesAt_3 : sm_fit (lt_R kFlow_livesAt) (lt_n kFlow_livesAt) (lt_fl kFlow_livesAt).1 (lt_fl kFlow_livesAt).2 (lt_r kFlow_livesAt) (lt_b kFlow_livesAt) (pc_Flow_livesAt) (pc_Flow_livesAt 3) (i_Flow_livesAt_3) = true := by decide +kernel
theorem fit_Flow_livesAt_4 : sm_fit (lt_R kFlow_livesAt) (lt_n kFlow_livesAt) (lt_fl kFlow_livesAt).1 (lt_fl kFlow_livesAt).2 (lt_r kFlow_livesAt) (lt_b kFlow_livesAt) (pc_Flow_livesAt) (pc_Flow_livesAt 4) (i_Flow_livesAt_4) = true := by decide +kernel
theorem fit_Flow_followAll_0 : sm_fit (lt_R kFlow_followAll) (lt_n kFlow_followAll) (lt_fl kFlow_followAll).1 (lt_fl kFlow_followAll).2 (lt_r kFlow_followAll) (lt_b kFlow_followAll) (pc_Flow_followAll) (pc_Flow_followAll 0) (i_Flow_followAll_0) = true := by decide +kernel
theorem fit_Flow_followAll_1 : sm_fit (lt_R kFlow_followAll) (lt_n kFlow_followAll) (lt_fl kFlow_followAll).1 (lt_fl kFlow_followAll).2 (lt_r kFlow_followAll) (lt_b kFlow_followAll) (pc_Flow_followAll) (pc_Flow_followAll 1) (i_Flow_followAll_1) = true := by decide +kernel
theorem fit_Flow_followAll_2 : sm_fit (lt_R kFlow_followAll) (lt_n kFlow_followAll) (lt_fl kFlow_followAll).1 (lt_fl kFlow_followAll).2 (lt_r kFlow_followAll) (lt_b kFlow_followAll) (pc_Flow_followAll) (pc_Flow_followAll 2) (i_Flow_followAll_2) = true := by decide +kernel
theorem fit_Flow_followAll_3 : sm_fit (lt_R kFlow_followAll) (lt_n kFlow_followAll) (lt_fl kFlow_followAll).1 (lt_fl kFlow_followAll).2 (lt_r kFlow_followAll) (lt_b kFlow_followAll) (pc_Flow_followAll) (pc_Flow_followAll 3) (i_Flow_followAll_3) = true := by decide +kernel
theorem fit_Flow_followAll_4 : sm_fit (lt_R kFlow_followAll) (lt_n kFlow_followAll) (lt_fl kFlow_followAll).1 (lt_fl kFlow_followAll).2 (lt_r kFlow_followAll) (lt_b kFlow_followAll) (pc_Flow_followAll) (pc_Flow_followAll 4) (i_Flow_followAll_4) = true := by decide +kernel
theorem fit_Flow_followAll_5 : sm_fit (lt_R kFlow_followAll) (lt_n kFlow_followAll) (lt_fl kFlow_followAll).1 (lt_fl kFlow_followAll).2 (lt_r kFlow_followAll) (lt_b kFlow_followAll) (pc_Flow_followAll) (pc_Flow_followAll 5) (i_Flow_followAll_5) = true := by decide +kernel
theorem fit_Flow_followAll_6 : sm_fit (lt_R kFlow_followAll) (lt_n kFlow_followAll) (lt_fl kFlow_followAll).1 (lt_fl kFlow_followAll).2 (lt_r kFlow_followAll) (lt_b kFlow_followAll) (pc_Flow_followAll) (pc_Flow_followAll 6) (i_Flow_followAll_6) = true := by decide +kernel
theorem fit_Flow_followAll_7 : sm_fit (lt_R kFlow_followAll) (lt_n kFlow_followAll) (lt_fl kFlow_followAll).1 (lt_fl kFlow_followAll).2 (lt_r kFlow_followAll) (lt_b kFlow_followAll) (pc_Flow_followAll) (pc_Flow_followAll 7) (i_Flow_followAll_7) = true := by decide +kernel
theorem fit_Flow_followAll_8 : sm_fit (lt_R kFlow_followAll) (lt_n kFlow_followAll) (lt_fl kFlow_followAll).1 (lt_fl kFlow_followAll).2 (lt_r kFlow_followAll) (lt_b kFlow_followAll) (pc_Flow_followAll) (pc_Flow_followAll 8) (i_Flow_followAll_8) = true := by decide +kernel
theorem fit_Flow_followAll_9 : sm_fit (lt_R kFlow_followAll) (lt_n kFlow_followAll) (lt_fl kFlow_followAll).1 (lt_fl kFlow_followAll).2 (lt_r kFlow_followAll) (lt_b kFlow_followAll) (pc_Flow_followAll) (pc_Flow_followAll 9) (i_Flow_followAll_9) = true := by decide +kernel
theorem fit_Flow_followAll_10 : sm_fit (lt_R kFlow_followAll) (lt_n kFlow_followAll) (lt_fl kFlow_followAll).1 (lt_fl kFlow_followAll).2 (lt_r kFlow_followAll) (lt_b kFlow_followAll) (pc_Flow_followAll) (pc_Flow_followAll 10) (i_Flow_followAll_10) = true := by decide +kernel
theorem fit_Flow_followAll_11 : sm_fit (lt_R kFlow_followAll) (lt_n kFlow_followAll) (lt_fl kFlow_followAll).1 (lt_fl kFlow_followAll).2 (lt_r kFlow_followAll) (lt_b kFlow_followAll) (pc_Flow_followAll) (pc_Flow_followAll 11) (i_Flow_followAll_11) = true := by decide +kernel
theorem fit_Flow_followAll_12 : sm_fit (lt_R kFlow_followAll) (lt_n kFlow_followAll) (lt_fl kFlow_followAll).1 (lt_fl kFlow_followAll).2 (lt_r kFlow_followAll) (lt_b kFlow_followAll) (pc_Flow_followAll) (pc_Flow_followAll 12) (i_Flow_followAll_12) = true := by decide +kernel
theorem fit_Flow_followAll_13 : sm_fit (lt_R kFlow_followAll) (lt_n kFlow_followAll) (lt_fl kFlow_followAll).1 (lt_fl kFlow_followAll).2 (lt_r kFlow_followAll) (lt_b kFlow_followAll) (pc_Flow_followAll) (pc_Flow_followAll 13) (i_Flow_followAll_13) = true := by decide +kernel
theorem fit_Flow_followAll_14 : sm_fit (lt_R kFlow_followAll) (lt_n kFlow_followAll) (lt_fl kFlow_followAll).1 (lt_fl kFlow_followAll).2 (lt_r kFlow_followAll) (lt_b kFlow_followAll) (pc_Flow_followAll) (pc_Flow_followAll 14) (i_Flow_followAll_14) = true := by decide +kernel
theorem fit_Flow_followAll_15 : sm_fit (lt_R kFlow_followAll) (lt_n kFlow_followAll) (lt_fl kFlow_followAll).1 (lt_fl kFlow_followAll).2 (lt_r kFlow_followAll) (lt_b kFlow_followAll) (pc_Flow_followAll) (pc_Flow_followAll 15) (i_Flow_followAll_15) = true := by decide +kernel
theorem fit_Flow_followAll_16 : sm_fit (lt_R kFlow_followAll) (lt_n kFlow_followAll) (lt_fl kFlow_followAll).1 (lt_fl kFlow_followAll).2 (lt_r kFlow_followAll) (lt_b kFlow_followAll) (pc_Flow_followAll) (pc_Flow_followAll 16) (i_Flow_followAll_16) = true := by decide +kernel
theorem fit_Flow_follow_0 : sm_fit (lt_R kFlow_follow) (lt_n kFlow_follow) (lt_fl kFlow_follow).1 (lt_fl kFlow_follow).2 (lt_r kFlow_follow) (lt_b kFlow_follow) (pc_Flow_follow) (pc_Flow_follow 0) (i_Flow_follow_0) = true := by decide +kernel
theorem fit_Flow_follow_1 : sm_fit (lt_R kFlow_follow) (lt_n kFlow_follow) (lt_fl kFlow_follow).1 (lt_fl kFlow_follow).2 (lt_r kFlow_follow) (lt_b kFlow_follow) (pc_Flow_follow) (pc_Flow_follow 1) (i_Flow_follow_1) = true := by decide +kernel
theorem fit_Flow_follow_2 : sm_fit (lt_R kFlow_follow) (lt_n kFlow_follow) (lt_fl kFlow_follow).1 (lt_fl kFlow_follow).2 (lt_r kFlow_follow) (lt_b kFlow_follow) (pc_Flow_follow) (pc_Flow_follow 2) (i_Flow_follow_2) = true := by decide +kernel
theorem fit_Flow_follow_3 : sm_fit (lt_R kFlow_follow) (lt_n kFlow_follow) (lt_fl kFlow_follow).1 (lt_fl kFlow_follow).2 (lt_r kFlow_follow) (lt_b kFlow_follow) (pc_Flow_follow) (pc_Flow_follow 3) (i_Flow_follow_3) = true := by decide +kernel
theorem fit_Flow_follow_4 : sm_fit (lt_R kFlow_follow) (lt_n kFlow_follow) (lt_fl kFlow_follow).1 (lt_fl kFlow_follow).2 (lt_r kFlow_follow) (lt_b kFlow_follow) (pc_Flow_follow) (pc_Flow_follow 4) (i_Flow_follow_4) = true := by decide +kernel
theorem fit_Flow_follow_5 : sm_fit (lt_R kFlow_follow) (lt_n kFlow_follow) (lt_fl kFlow_follow).1 (lt_fl kFlow_follow).2 (lt_r kFlow_follow) (lt_b kFlow_follow) (pc_Flow_follow) (pc_Flow_follow 5) (i_Flow_follow_5) = true := by decide +kernel
theorem fit_Flow_follow_6 : sm_fit (lt_R kFlow_follow) (lt_n kFlow_follow) (lt_fl kFlow_follow).1 (lt_fl kFlow_follow).2 (lt_r kFlow_follow) (lt_b kFlow_follow) (pc_Flow_follow) (pc_Flow_follow 6) (i_Flow_follow_6) = true := by decide +kernel
theorem fit_Flow_goOn_0 : sm_fit (lt_R kFlow_goOn) (lt_n kFlow_goOn) (lt_fl kFlow_goOn).1 (lt_fl kFlow_goOn).2 (lt_r kFlow_goOn) (lt_b kFlow_goOn) (pc_Flow_goOn) (pc_Flow_goOn 0) (i_Flow_goOn_0) = true := by decide +kernel
theorem fit_Flow_goOn_1 : sm_fit (lt_R kFlow_goOn) (lt_n kFlow_goOn) (lt_fl kFlow_goOn).1 (lt_fl kFlow_goOn).2 (lt_r kFlow_goOn) (lt_b kFlow_goOn) (pc_Flow_goOn) (pc_Flow_goOn 1) (i_Flow_goOn_1) = true := by decide +kernel
theorem fit_Flow_goOn_2 : sm_fit (lt_R kFlow_goOn) (lt_n kFlow_goOn) (lt_fl kFlow_goOn).1 (lt_fl kFlow_goOn).2 (lt_r kFlow_goOn) (lt_b kFlow_goOn) (pc_Flow_goOn) (pc_Flow_goOn 2) (i_Flow_goOn_2) = true := by decide +kernel
theorem fit_Flow_goOn_3 : sm_fit (lt_R kFlow_goOn) (lt_n kFlow_goOn) (lt_fl kFlow_goOn).1 (lt_fl kFlow_goOn).2 (lt_r kFlow_goOn) (lt_b kFlow_goOn) (pc_Flow_goOn) (pc_Flow_goOn 3) (i_Flow_goOn_3) = true := by decide +kernel
theorem fit_Flow_changeNames_0 : sm_fit (lt_R kFlow_changeNames) (lt_n kFlow_changeNames) (lt_fl kFlow_changeNames).1 (lt_fl kFlow_changeNames).2 (lt_r kFlow_changeNames) (lt_b kFlow_changeNames) (pc_Flow_changeNames) (pc_Flow_changeNames 0) (i_Flow_changeNames_0) = true := by decide +kernel
theorem fit_Flow_changeNames_1 : sm_fit (lt_R kFlow_changeNames) (lt_n kFlow_changeNames) (lt_fl kFlow_changeNames).1 (lt_fl kFlow_changeNames).2 (lt_r kFlow_changeNames) (lt_b kFlow_changeNames) (pc_Flow_changeNames) (pc_Flow_changeNames 1) (i_Flow_changeNames_1) = true := by decide +kernel
theorem fit_Flow_changeNames_2 : sm_fit (lt_R kFlow_changeNames) (lt_n kFlow_changeNames) (lt_fl kFlow_changeNames).1 (lt_fl kFlow_changeNames).2 (lt_r kFlow_changeNames) (lt_b kFlow_changeNames) (pc_Flow_changeNames) (pc_Flow_changeNames 2) (i_Flow_changeNames_2) = true := by decide +kernel
theorem fit_Flow_changeNames_3 : sm_fit (lt_R kFlow_changeNames) (lt_n kFlow_changeNames) (lt_fl kFlow_changeNames).1 (lt_fl kFlow_changeNames).2 (lt_r kFlow_changeNames) (lt_b kFlow_changeNames) (pc_Flow_changeNames) (pc_Flow_changeNames 3) (i_Flow_changeNames_3) = true := by decide +kernel
theorem fit_Flow_changeNames_4 : sm_fit (lt_R kFlow_changeNames) (lt_n kFlow_changeNames) (lt_fl kFlow_changeNames).1 (lt_fl kFlow_changeNames).2 (lt_r kFlow_changeNames) (lt_b kFlow_changeNames) (pc_Flow_changeNames) (pc_Flow_changeNames 4) (i_Flow_changeNames_4) = true := by decide +kernel
theorem fit_Flow_changeNames_5 : sm_fit (lt_R kFlow_changeNames) (lt_n kFlow_changeNames) (lt_fl kFlow_changeNames).1 (lt_fl kFlow_changeNames).2 (lt_r kFlow_changeNames) (lt_b kFlow_changeNames) (pc_Flow_changeNames) (pc_Flow_changeNames 5) (i_Flow_changeNames_5) = true := by decide +kernel
theorem fit_Flow_changeNames_6 : sm_fit (lt_R kFlow_changeNames) (lt_n kFlow_changeNames) (lt_fl kFlow_changeNames).1 (lt_fl kFlow_changeNames).2 (lt_r kFlow_changeNames) (lt_b kFlow_changeNames) (pc_Flow_changeNames) (pc_Flow_changeNames 6) (i_Flow_changeNames_6) = true := by decide +kernel
theorem fit_Flow_changeNames_7 : sm_fit (lt_R kFlow_changeNames) (lt_n kFlow_changeNames) (lt_fl kFlow_changeNames).1 (lt_fl kFlow_changeNames).2 (lt_r kFlow_changeNames) (lt_b kFlow_changeNames) (pc_Flow_changeNames) (pc_Flow_changeNames 7) (i_Flow_changeNames_7) = true := by decide +kernel
theorem fit_Flow_changeNames_8 : sm_fit (lt_R kFlow_changeNames) (lt_n kFlow_changeNames) (lt_fl kFlow_changeNames).1 (lt_fl kFlow_changeNames).2 (lt_r kFlow_changeNames) (lt_b kFlow_changeNames) (pc_Flow_changeNames) (pc_Flow_changeNames 8) (i_Flow_changeNames_8) = true := by decide +kernel
theorem fit_Flow_changeNames_9 : sm_fit (lt_R kFlow_changeNames) (lt_n kFlow_changeNames) (lt_fl kFlow_changeNames).1 (lt_fl kFlow_changeNames).2 (lt_r kFlow_changeNames) (lt_b kFlow_changeNames) (pc_Flow_changeNames) (pc_Flow_changeNames 9) (i_Flow_changeNames_9) = true := by decide +kernel
theorem fit_Flow_changeNames_10 : sm_fit (lt_R kFlow_changeNames) (lt_n kFlow_changeNames) (lt_fl kFlow_changeNames).1 (lt_fl kFlow_changeNames).2 (lt_r kFlow_changeNames) (lt_b kFlow_changeNames) (pc_Flow_changeNames) (pc_Flow_changeNames 10) (i_Flow_changeNames_10) = true := by decide +kernel
theorem fit_Flow_changeNames_11 : sm_fit (lt_R kFlow_changeNames) (lt_n kFlow_changeNames) (lt_fl kFlow_changeNames).1 (lt_fl kFlow_changeNames).2 (lt_r kFlow_changeNames) (lt_b kFlow_changeNames) (pc_Flow_changeNames) (pc_Flow_changeNames 11) (i_Flow_changeNames_11) = true := by decide +kernel
theorem fit_Flow_changeNames_12 : sm_fit (lt_R kFlow_changeNames) (lt_n kFlow_changeNames) (lt_fl kFlow_changeNames).1 (lt_fl kFlow_changeNames).2 (lt_r kFlow_changeNames) (lt_b kFlow_changeNames) (pc_Flow_changeNames) (pc_Flow_changeNames 12) (i_Flow_changeNames_12) = true := by decide +kernel
theorem fit_Flow_gotten_0 : sm_fit (lt_R kFlow_gotten) (lt_n kFlow_gotten) (lt_fl kFlow_gotten).1 (lt_fl kFlow_gotten).2 (lt_r kFlow_gotten) (lt_b kFlow_gotten) (pc_Flow_gotten) (pc_Flow_gotten 0) (i_Flow_gotten_0) = true := by decide +kernel
theorem fit_Flow_gotten_1 : sm_fit (lt_R kFlow_gotten) (lt_n kFlow_gotten) (lt_fl kFlow_gotten).1 (lt_fl kFlow_gotten).2 (lt_r kFlow_gotten) (lt_b kFlow_gotten) (pc_Flow_gotten) (pc_Flow_gotten 1) (i_Flow_gotten_1) = true := by decide +kernel
theorem fit_Flow_gotten_2 : sm_fit (lt_R kFlow_gotten) (lt_n kFlow_gotten) (lt_fl kFlow_gotten).1 (lt_fl kFlow_gotten).2 (lt_r kFlow_gotten) (lt_b kFlow_gotten) (pc_Flow_gotten) (pc_Flow_gotten 2) (i_Flow_gotten_2) = true := by decide +kernel
theorem fit_Flow_gotten_3 : sm_fit (lt_R kFlow_gotten) (lt_n kFlow_gotten) (lt_fl kFlow_gotten).1 (lt_fl kFlow_gotten).2 (lt_r kFlow_gotten) (lt_b kFlow_gotten) (pc_Flow_gotten) (pc_Flow_gotten 3) (i_Flow_gotten_3) = true := by decide +kernel
theorem fit_Flow_gotten_4 : sm_fit (lt_R kFlow_gotten) (lt_n kFlow_gotten) (lt_fl kFlow_gotten).1 (lt_fl kFlow_gotten).2 (lt_r kFlow_gotten) (lt_b kFlow_gotten) (pc_Flow_gotten) (pc_Flow_gotten 4) (i_Flow_gotten_4) = true := by decide +kernel
theorem fit_Flow_gotten_5 : sm_fit (lt_R kFlow_gotten) (lt_n kFlow_gotten) (lt_fl kFlow_gotten).1 (lt_fl kFlow_gotten).2 (lt_r kFlow_gotten) (lt_b kFlow_gotten) (pc_Flow_gotten) (pc_Flow_gotten 5) (i_Flow_gotten_5) = true := by decide +kernel
theorem fit_Flow_gotten_6 : sm_fit (lt_R kFlow_gotten) (lt_n kFlow_gotten) (lt_fl kFlow_gotten).1 (lt_fl kFlow_gotten).2 (lt_r kFlow_gotten) (lt_b kFlow_gotten) (pc_Flow_gotten) (pc_Flow_gotten 6) (i_Flow_gotten_6) = true := by decide +kernel
theorem fit_Flow_gotten_7 : sm_fit (lt_R kFlow_gotten) (lt_n kFlow_gotten) (lt_fl kFlow_gotten).1 (lt_fl kFlow_gotten).2 (lt_r kFlow_gotten) (lt_b kFlow_gotten) (pc_Flow_gotten) (pc_Flow_gotten 7) (i_Flow_gotten_7) = true := by decide +kernel
theorem fit_Flow_gotten_8 : sm_fit (lt_R kFlow_gotten) (lt_n kFlow_gotten) (lt_fl kFlow_gotten).1 (lt_fl kFlow_gotten).2 (lt_r kFlow_gotten) (lt_b kFlow_gotten) (pc_Flow_gotten) (pc_Flow_gotten 8) (i_Flow_gotten_8) = true := by decide +kernel
theorem fit_Flow_gotten_9 : sm_fit (lt_R kFlow_gotten) (lt_n kFlow_gotten) (lt_fl kFlow_gotten).1 (lt_fl kFlow_gotten).2 (lt_r kFlow_gotten) (lt_b kFlow_gotten) (pc_Flow_gotten) (pc_Flow_gotten 9) (i_Flow_gotten_9) = true := by decide +kernel
theorem fit_Flow_gotten_10 : sm_fit (lt_R kFlow_gotten) (lt_n kFlow_gotten) (lt_fl kFlow_gotten).1 (lt_fl kFlow_gotten).2 (lt_r kFlow_gotten) (lt_b kFlow_gotten) (pc_Flow_gotten) (pc_Flow_gotten 10) (i_Flow_gotten_10) = true := by decide +kernel
theorem fit_Flow_gotten_11 : sm_fit (lt_R kFlow_gotten) (lt_n kFlow_gotten) (lt_fl kFlow_gotten).1 (lt_fl kFlow_gotten).2 (lt_r kFlow_gotten) (lt_b kFlow_gotten) (pc_Flow_gotten) (pc_Flow_gotten 11) (i_Flow_gotten_11) = true := by decide +kernel
theorem fit_Flow_gotten_12 : sm_fit (lt_R kFlow_gotten) (lt_n kFlow_gotten) (lt_fl kFlow_gotten).1 (lt_fl kFlow_gotten).2 (lt_r kFlow_gotten) (lt_b kFlow_gotten) (pc_Flow_gotten) (pc_Flow_gotten 12) (i_Flow_gotten_12) = true := by decide +kernel
theorem fit_Flow_gotten_13 : sm_fit (lt_R kFlow_gotten) (lt_n kFlow_gotten) (lt_fl kFlow_gotten).1 (lt_fl kFlow_gotten).2 (lt_r kFlow_gotten) (lt_b kFlow_gotten) (pc_Flow_gotten) (pc_Flow_gotten 13) (i_Flow_gotten_13) = true := by decide +kernel
theorem fit_Flow_taken_0 : sm_fit (lt_R kFlow_taken) (lt_n kFlow_taken) (lt_fl kFlow_taken).1 (lt_fl kFlow_taken).2 (lt_r kFlow_taken) (lt_b kFlow_taken) (pc_Flow_taken) (pc_Flow_taken 0) (i_Flow_taken_0) = true := by decide +kernel
theorem fit_Flow_taken_1 : sm_fit (lt_R kFlow_taken) (lt_n kFlow_taken) (lt_fl kFlow_taken).1 (lt_fl kFlow_taken).2 (lt_r kFlow_taken) (lt_b kFlow_taken) (pc_Flow_taken) (pc_Flow_taken 1) (i_Flow_taken_1) = true := by decide +kernel
theorem fit_Flow_taken_2 : sm_fit (lt_R kFlow_taken) (lt_n kFlow_taken) (lt_fl kFlow_taken).1 (lt_fl kFlow_taken).2 (lt_r kFlow_taken) (lt_b kFlow_taken) (pc_Flow_taken) (pc_Flow_taken 2) (i_Flow_taken_2) = true := by decide +kernel
theorem fit_Flow_taken_3 : sm_fit (lt_R kFlow_taken) (lt_n kFlow_taken) (lt_fl kFlow_taken).1 (lt_fl kFlow_taken).2 (lt_r kFlow_taken) (lt_b kFlow_taken) (pc_Flow_taken) (pc_Flow_taken 3) (i_Flow_taken_3) = true := by decide +kernel
theorem fit_Flow_taken_4 : sm_fit (lt_R kFlow_taken) (lt_n kFlow_taken) (lt_fl kFlow_taken).1 (lt_fl kFlow_taken).2 (lt_r kFlow_taken) (lt_b kFlow_taken) (pc_Flow_taken) (pc_Flow_taken 4) (i_Flow_taken_4) = true := by decide +kernel
theorem fit_Flow_taken_5 : sm_fit (lt_R kFlow_taken) (lt_n kFlow_taken) (lt_fl kFlow_taken).1 (lt_fl kFlow_taken).2 (lt_r kFlow_taken) (lt_b kFlow_taken) (pc_Flow_taken) (pc_Flow_taken 5) (i_Flow_taken_5) = true := by decide +kernel
theorem fit_Flow_taken_6 : sm_fit (lt_R kFlow_taken) (lt_n kFlow_taken) (lt_fl kFlow_taken).1 (lt_fl kFlow_taken).2 (lt_r kFlow_taken) (lt_b kFlow_taken) (pc_Flow_taken) (pc_Flow_taken 6) (i_Flow_taken_6) = true := by decide +kernel
theorem fit_Flow_taken_7 : sm_fit (lt_R kFlow_taken) (lt_n kFlow_taken) (lt_fl kFlow_taken).1 (lt_fl kFlow_taken).2 (lt_r kFlow_taken) (lt_b kFlow_taken) (pc_Flow_taken) (pc_Flow_taken 7) (i_Flow_taken_7) = true := by decide +kernel
theorem fit_Flow_taken_8 : sm_fit (lt_R kFlow_taken) (lt_n kFlow_taken) (lt_fl kFlow_taken).1 (lt_fl kFlow_taken).2 (lt_r kFlow_taken) (lt_b kFlow_taken) (pc_Flow_taken) (pc_Flow_taken 8) (i_Flow_taken_8) = true := by decide +kernel
theorem fit_Flow_reach_0 : sm_fit (lt_R kFlow_reach) (lt_n kFlow_reach) (lt_fl kFlow_reach).1 (lt_fl kFlow_reach).2 (lt_r kFlow_reach) (lt_b kFlow_reach) (pc_Flow_reach) (pc_Flow_reach 0) (i_Flow_reach_0) = true := by decide +kernel
theorem fit_Flow_reach_1 : sm_fit (lt_R kFlow_reach) (lt_n kFlow_reach) (lt_fl kFlow_reach).1 (lt_fl kFlow_reach).2 (lt_r kFlow_reach) (lt_b kFlow_reach) (pc_Flow_reach) (pc_Flow_reach 1) (i_Flow_reach_1) = true := by decide +kernel
theorem fit_Flow_reach_2 : sm_fit (lt_R kFlow_reach) (lt_n kFlow_reach) (lt_fl kFlow_reach).1 (lt_fl kFlow_reach).2 (lt_r kFlow_reach) (lt_b kFlow_reach) (pc_Flow_reach) (pc_Flow_reach 2) (i_Flow_reach_2) = true := by decide +kernel
theorem fit_Flow_reach_3 : sm_fit (lt_R kFlow_reach) (lt_n kFlow_reach) (lt_fl kFlow_reach).1 (lt_fl kFlow_reach).2 (lt_r kFlow_reach) (lt_b kFlow_reach) (pc_Flow_reach) (pc_Flow_reach 3) (i_Flow_reach_3) = true := by decide +kernel
theorem fit_Flow_reach_4 : sm_fit (lt_R kFlow_reach) (lt_n kFlow_reach) (lt_fl kFlow_reach).1 (lt_fl kFlow_reach).2 (lt_r kFlow_reach) (lt_b kFlow_reach) (pc_Flow_reach) (pc_Flow_reach 4) (i_Flow_reach_4) = true := by decide +kernel
theorem fit_Flow_reach_5 : sm_fit (lt_R kFlow_reach) (lt_n kFlow_reach) (lt_fl kFlow_reach).1 (lt_fl kFlow_reach).2 (lt_r kFlow_reach) (lt_b kFlow_reach) (pc_Flow_reach) (pc_Flow_reach 5) (i_Flow_reach_5) = true := by decide +kernel
theorem fit_Flow_reach_6 : sm_fit (lt_R kFlow_reach) (lt_n kFlow_reach) (lt_fl kFlow_reach).1 (lt_fl kFlow_reach).2 (lt_r kFlow_reach) (lt_b kFlow_reach) (pc_Flow_reach) (pc_Flow_reach 6) (i_Flow_reach_6) = true := by decide +kernel
theorem fit_Flow_reach_7 : sm_fit (lt_R kFlow_reach) (lt_n kFlow_reach) (lt_fl kFlow_reach).1 (lt_fl kFlow_reach).2 (lt_r kFlow_reach) (lt_b kFlow_reach) (pc_Flow_reach) (pc_Flow_reach 7) (i_Flow_reach_7) = true := by decide +kernel
theorem fit_Flow_reach_8 : sm_fit (lt_R kFlow_reach) (lt_n kFlow_reach) (lt_fl kFlow_reach).1 (lt_fl kFlow_reach).2 (lt_r kFlow_reach) (lt_b kFlow_reach) (pc_Flow_reach) (pc_Flow_reach 8) (i_Flow_reach_8) = true := by decide +kernel
theorem fit_Flow_reach_9 : sm_fit (lt_R kFlow_reach) (lt_n kFlow_reach) (lt_fl kFlow_reach).1 (lt_fl kFlow_reach).2 (lt_r kFlow_reach) (lt_b kFlow_reach) (pc_Flow_reach) (pc_Flow_reach 9) (i_Flow_reach_9) = true := by decide +kernel
theorem fit_Flow_reach_10 : sm_fit (lt_R kFlow_reach) (lt_n kFlow_reach) (lt_fl kFlow_reach).1 (lt_fl kFlow_reach).2 (lt_r kFlow_reach) (lt_b kFlow_reach) (pc_Flow_reach) (pc_Flow_reach 10) (i_Flow_reach_10) = true := by decide +kernel
theorem fit_Flow_reach_11 : sm_fit (lt_R kFlow_reach) (lt_n kFlow_reach) (lt_fl kFlow_reach).1 (lt_fl kFlow_reach).2 (lt_r kFlow_reach) (lt_b kFlow_reach) (pc_Flow_reach) (pc_Flow_reach 11) (i_Flow_reach_11) = true := by decide +kernel
theorem fit_Flow_reach_12 : sm_fit (lt_R kFlow_reach) (lt_n kFlow_reach) (lt_fl kFlow_reach).1 (lt_fl kFlow_reach).2 (lt_r kFlow_reach) (lt_b kFlow_reach) (pc_Flow_reach) (pc_Flow_reach 12) (i_Flow_reach_12) = true := by decide +kernel
theorem fit_Flow_reach_13 : sm_fit (lt_R kFlow_reach) (lt_n kFlow_reach) (lt_fl kFlow_reach).1 (lt_fl kFlow_reach).2 (lt_r kFlow_reach) (lt_b kFlow_reach) (pc_Flow_reach) (pc_Flow_reach 13) (i_Flow_reach_13) = true := by decide +kernel
theorem fit_Flow_reach_14 : sm_fit (lt_R kFlow_reach) (lt_n kFlow_reach) (lt_fl kFlow_reach).1 (lt_fl kFlow_reach).2 (lt_r kFlow_reach) (lt_b kFlow_reach) (pc_Flow_reach) (pc_Flow_reach 14) (i_Flow_reach_14) = true := by decide +kernel
theorem fit_Flow_reach_15 : sm_fit (lt_R kFlow_reach) (lt_n kFlow_reach) (lt_fl kFlow_reach).1 (lt_fl kFlow_reach).2 (lt_r kFlow_reach) (lt_b kFlow_reach) (pc_Flow_reach) (pc_Flow_reach 15) (i_Flow_reach_15) = true := by decide +kernel
theorem fit_Flow_reach_16 : sm_fit (lt_R kFlow_reach) (lt_n kFlow_reach) (lt_fl kFlow_reach).1 (lt_fl kFlow_reach).2 (lt_r kFlow_reach) (lt_b kFlow_reach) (pc_Flow_reach) (pc_Flow_reach 16) (i_Flow_reach_16) = true := by decide +kernel
theorem fit_Flow_reach_17 : sm_fit (lt_R kFlow_reach) (lt_n kFlow_reach) (lt_fl kFlow_reach).1 (lt_fl kFlow_reach).2 (lt_r kFlow_reach) (lt_b kFlow_reach) (pc_Flow_reach) (pc_Flow_reach 17) (i_Flow_reach_17) = true := by decide +kernel
theorem fit_Flow_reach_18 : sm_fit (lt_R kFlow_reach) (lt_n kFlow_reach) (lt_fl kFlow_reach).1 (lt_fl kFlow_reach).2 (lt_r kFlow_reach) (lt_b kFlow_reach) (pc_Flow_reach) (pc_Flow_reach 18) (i_Flow_reach_18) = true := by decide +kernel
theorem fit_Flow_reach_19 : sm_fit (lt_R kFlow_reach) (lt_n kFlow_reach) (lt_fl kFlow_reach).1 (lt_fl kFlow_reach).2 (lt_r kFlow_reach) (lt_b kFlow_reach) (pc_Flow_reach) (pc_Flow_reach 19) (i_Flow_reach_19) = true := by decide +kernel
theorem fit_Flow_reach_20 : sm_fit (lt_R kFlow_reach) (lt_n kFlow_reach) (lt_fl kFlow_reach).1 (lt_fl kFlow_reach).2 (lt_r kFlow_reach) (lt_b kFlow_reach) (pc_Flow_reach) (pc_Flow_reach 20) (i_Flow_reach_20) = true := by decide +kernel
theorem fit_Flow_reach_21 : sm_fit (lt_R kFlow_reach) (lt_n kFlow_reach) (lt_fl kFlow_reach).1 (lt_fl kFlow_reach).2 (lt_r kFlow_reach) (lt_b kFlow_reach) (pc_Flow_reach) (pc_Flow_reach 21) (i_Flow_reach_21) = true := by decide +kernel
theorem fit_Flow_reach_22 : sm_fit (lt_R kFlow_reach) (lt_n kFlow_reach) (lt_fl kFlow_reach).1 (lt_fl kFlow_reach).2 (lt_r kFlow_reach) (lt_b kFlow_reach) (pc_Flow_reach) (pc_Flow_reach 22) (i_Flow_reach_22) = true := by decide +kernel
theorem fit_Flow_reach_23 : sm_fit (lt_R kFlow_reach) (lt_n kFlow_reach) (lt_fl kFlow_reach).1 (lt_fl kFlow_reach).2 (lt_r kFlow_reach) (lt_b kFlow_reach) (pc_Flow_reach) (pc_Flow_reach 23) (i_Flow_reach_23) = true := by decide +kernel
theorem fit_Flow_reach_24 : sm_fit (lt_R kFlow_reach) (lt_n kFlow_reach) (lt_fl kFlow_reach).1 (lt_fl kFlow_reach).2 (lt_r kFlow_reach) (lt_b kFlow_reach) (pc_Flow_reach) (pc_Flow_reach 24) (i_Flow_reach_24) = true := by decide +kernel
theorem fit_Flow_reach_25 : sm_fit (lt_R kFlow_reach) (lt_n kFlow_reach) (lt_fl kFlow_reach).1 (lt_fl kFlow_reach).2 (lt_r kFlow_reach) (lt_b kFlow_reach) (pc_Flow_reach) (pc_Flow_reach 25) (i_Flow_reach_25) = true := by decide +kernel
theorem fit_Flow_reach_26 : sm_fit (lt_R kFlow_reach) (lt_n kFlow_reach) (lt_fl kFlow_reach).1 (lt_fl kFlow_reach).2 (lt_r kFlow_reach) (lt_b kFlow_reach) (pc_Flow_reach) (pc_Flow_reach 26) (i_Flow_reach_26) = true := by decide +kernel
theorem fit_Flow_together_0 : sm_fit (lt_R kFlow_together) (lt_n kFlow_together) (lt_fl kFlow_together).1 (lt_fl kFlow_together).2 (lt_r kFlow_together) (lt_b kFlow_together) (pc_Flow_together) (pc_Flow_together 0) (i_Flow_together_0) = true := by decide +kernel
theorem fit_Flow_together_1 : sm_fit (lt_R kFlow_together) (lt_n kFlow_together) (lt_fl kFlow_together).1 (lt_fl kFlow_together).2 (lt_r kFlow_together) (lt_b kFlow_together) (pc_Flow_together) (pc_Flow_together 1) (i_Flow_together_1) = true := by decide +kernel
theorem fit_Flow_together_2 : sm_fit (lt_R kFlow_together) (lt_n kFlow_together) (lt_fl kFlow_together).1 (lt_fl kFlow_together).2 (lt_r kFlow_together) (lt_b kFlow_together) (pc_Flow_together) (pc_Flow_together 2) (i_Flow_together_2) = true := by decide +kernel
theorem fit_Flow_together_3 : sm_fit (lt_R kFlow_together) (lt_n kFlow_together) (lt_fl kFlow_together).1 (lt_fl kFlow_together).2 (lt_r kFlow_together) (lt_b kFlow_together) (pc_Flow_together) (pc_Flow_together 3) (i_Flow_together_3) = true := by decide +kernel
theorem fit_Flow_together_4 : sm_fit (lt_R kFlow_together) (lt_n kFlow_together) (lt_fl kFlow_together).1 (lt_fl kFlow_together).2 (lt_r kFlow_together) (lt_b kFlow_together) (pc_Flow_together) (pc_Flow_together 4) (i_Flow_together_4) = true := by decide +kernel
theorem fit_Flow_together_5 : sm_fit (lt_R kFlow_together) (lt_n kFlow_together) (lt_fl kFlow_together).1 (lt_fl kFlow_together).2 (lt_r kFlow_together) (lt_b kFlow_together) (pc_Flow_together) (pc_Flow_together 5) (i_Flow_together_5) = true := by decide +kernel
theorem fit_Flow_together_6 : sm_fit (lt_R kFlow_together) (lt_n kFlow_together) (lt_fl kFlow_together).1 (lt_fl kFlow_together).2 (lt_r kFlow_together) (lt_b kFlow_together) (pc_Flow_together) (pc_Flow_together 6) (i_Flow_together_6) = true := by decide +kernel
theorem fit_Flow_together_7 : sm_fit (lt_R kFlow_together) (lt_n kFlow_together) (lt_fl kFlow_together).1 (lt_fl kFlow_together).2 (lt_r kFlow_together) (lt_b kFlow_together) (pc_Flow_together) (pc_Flow_together 7) (i_Flow_together_7) = true := by decide +kernel
theorem fit_Flow_together_8 : sm_fit (lt_R kFlow_together) (lt_n kFlow_together) (lt_fl kFlow_together).1 (lt_fl kFlow_together).2 (lt_r kFlow_together) (lt_b kFlow_together) (pc_Flow_together) (pc_Flow_together 8) (i_Flow_together_8) = true := by decide +kernel
theorem fit_Flow_together_9 : sm_fit (lt_R kFlow_together) (lt_n kFlow_together) (lt_fl kFlow_together).1 (lt_fl kFlow_together).2 (lt_r kFlow_together) (lt_b kFlow_together) (pc_Flow_together) (pc_Flow_together 9) (i_Flow_together_9) = true := by decide +kernel
theorem fit_Flow_together_10 : sm_fit (lt_R kFlow_together) (lt_n kFlow_together) (lt_fl kFlow_together).1 (lt_fl kFlow_together).2 (lt_r kFlow_together) (lt_b kFlow_together) (pc_Flow_together) (pc_Flow_together 10) (i_Flow_together_10) = true := by decide +kernel
theorem fit_Flow_together_11 : sm_fit (lt_R kFlow_together) (lt_n kFlow_together) (lt_fl kFlow_together).1 (lt_fl kFlow_together).2 (lt_r kFlow_together) (lt_b kFlow_together) (pc_Flow_together) (pc_Flow_together 11) (i_Flow_together_11) = true := by decide +kernel
theorem fit_Flow_isMaybeAffine_0 : sm_fit (lt_R kFlow_isMaybeAffine) (lt_n kFlow_isMaybeAffine) (lt_fl kFlow_isMaybeAffine).1 (lt_fl kFlow_isMaybeAffine).2 (lt_r kFlow_isMaybeAffine) (lt_b kFlow_isMaybeAffine) (pc_Flow_isMaybeAffine) (pc_Flow_isMaybeAffine 0) (i_Flow_isMaybeAffine_0) = true := by decide +kernel
theorem fit_Flow_isMaybeAffine_1 : sm_fit (lt_R kFlow_isMaybeAffine) (lt_n kFlow_isMaybeAffine) (lt_fl kFlow_isMaybeAffine).1 (lt_fl kFlow_isMaybeAffine).2 (lt_r kFlow_isMaybeAffine) (lt_b kFlow_isMaybeAffine) (pc_Flow_isMaybeAffine) (pc_Flow_isMaybeAffine 1) (i_Flow_isMaybeAffine_1) = true := by decide +kernel
theorem fit_Flow_isMaybeAffine_2 : sm_fit (lt_R kFlow_isMaybeAffine) (lt_n kFlow_isMaybeAffine) (lt_fl kFlow_isMaybeAffine).1 (lt_fl kFlow_isMaybeAffine).2 (lt_r kFlow_isMaybeAffine) (lt_b kFlow_isMaybeAffine) (pc_Flow_isMaybeAffine) (pc_Flow_isMaybeAffine 2) (i_Flow_isMaybeAffine_2) = true := by decide +kernel
theorem fit_Flow_isMaybeAffine_3 : sm_fit (lt_R kFlow_isMaybeAffine) (lt_n kFlow_isMaybeAffine) (lt_fl kFlow_isMaybeAffine).1 (lt_fl kFlow_isMaybeAffine).2 (lt_r kFlow_isMaybeAffine) (lt_b kFlow_isMaybeAffine) (pc_Flow_isMaybeAffine) (pc_Flow_isMaybeAffine 3) (i_Flow_isMaybeAffine_3) = true := by decide +kernel
theorem fit_Flow_isMaybeAffine_4 : sm_fit (lt_R kFlow_isMaybeAffine) (lt_n kFlow_isMaybeAffine) (lt_fl kFlow_isMaybeAffine).1 (lt_fl kFlow_isMaybeAffine).2 (lt_r kFlow_isMaybeAffine) (lt_b kFlow_isMaybeAffine) (pc_Flow_isMaybeAffine) (pc_Flow_isMaybeAffine 4) (i_Flow_isMaybeAffine_4) = true := by decide +kernel
theorem fit_Flow_isOwner_0 : sm_fit (lt_R kFlow_isOwner) (lt_n kFlow_isOwner) (lt_fl kFlow_isOwner).1 (lt_fl kFlow_isOwner).2 (lt_r kFlow_isOwner) (lt_b kFlow_isOwner) (pc_Flow_isOwner) (pc_Flow_isOwner 0) (i_Flow_isOwner_0) = true := by decide +kernel
theorem fit_Flow_isOwner_1 : sm_fit (lt_R kFlow_isOwner) (lt_n kFlow_isOwner) (lt_fl kFlow_isOwner).1 (lt_fl kFlow_isOwner).2 (lt_r kFlow_isOwner) (lt_b kFlow_isOwner) (pc_Flow_isOwner) (pc_Flow_isOwner 1) (i_Flow_isOwner_1) = true := by decide +kernel
theorem fit_Flow_isOwner_2 : sm_fit (lt_R kFlow_isOwner) (lt_n kFlow_isOwner) (lt_fl kFlow_isOwner).1 (lt_fl kFlow_isOwner).2 (lt_r kFlow_isOwner) (lt_b kFlow_isOwner) (pc_Flow_isOwner) (pc_Flow_isOwner 2) (i_Flow_isOwner_2) = true := by decide +kernel
theorem fit_Flow_isOwner_3 : sm_fit (lt_R kFlow_isOwner) (lt_n kFlow_isOwner) (lt_fl kFlow_isOwner).1 (lt_fl kFlow_isOwner).2 (lt_r kFlow_isOwner) (lt_b kFlow_isOwner) (pc_Flow_isOwner) (pc_Flow_isOwner 3) (i_Flow_isOwner_3) = true := by decide +kernel
theorem fit_Flow_isOwner_4 : sm_fit (lt_R kFlow_isOwner) (lt_n kFlow_isOwner) (lt_fl kFlow_isOwner).1 (lt_fl kFlow_isOwner).2 (lt_r kFlow_isOwner) (lt_b kFlow_isOwner) (pc_Flow_isOwner) (pc_Flow_isOwner 4) (i_Flow_isOwner_4) = true := by decide +kernel
theorem fit_Flow_isShared_0 : sm_fit (lt_R kFlow_isShared) (lt_n kFlow_isShared) (lt_fl kFlow_isShared).1 (lt_fl kFlow_isShared).2 (lt_r kFlow_isShared) (lt_b kFlow_isShared) (pc_Flow_isShared) (pc_Flow_isShared 0) (i_Flow_isShared_0) = true := by decide +kernel
theorem fit_Flow_isShared_1 : sm_fit (lt_R kFlow_isShared) (lt_n kFlow_isShared) (lt_fl kFlow_isShared).1 (lt_fl kFlow_isShared).2 (lt_r kFlow_isShared) (lt_b kFlow_isShared) (pc_Flow_isShared) (pc_Flow_isShared 1) (i_Flow_isShared_1) = true := by decide +kernel
theorem fit_Flow_isShared_2 : sm_fit (lt_R kFlow_isShared) (lt_n kFlow_isShared) (lt_fl kFlow_isShared).1 (lt_fl kFlow_isShared).2 (lt_r kFlow_isShared) (lt_b kFlow_isShared) (pc_Flow_isShared) (pc_Flow_isShared 2) (i_Flow_isShared_2) = true := by decide +kernel
theorem fit_Flow_isShared_3 : sm_fit (lt_R kFlow_isShared) (lt_n kFlow_isShared) (lt_fl kFlow_isShared).1 (lt_fl kFlow_isShared).2 (lt_r kFlow_isShared) (lt_b kFlow_isShared) (pc_Flow_isShared) (pc_Flow_isShared 3) (i_Flow_isShared_3) = true := by decide +kernel
theorem fit_Flow_isShared_4 : sm_fit (lt_R kFlow_isShared) (lt_n kFlow_isShared) (lt_fl kFlow_isShared).1 (lt_fl kFlow_isShared).2 (lt_r kFlow_isShared) (lt_b kFlow_isShared) (pc_Flow_isShared) (pc_Flow_isShared 4) (i_Flow_isShared_4) = true := by decide +kernel
theorem fit_Flow_isLent_0 : sm_fit (lt_R kFlow_isLent) (lt_n kFlow_isLent) (lt_fl kFlow_isLent).1 (lt_fl kFlow_isLent).2 (lt_r kFlow_isLent) (lt_b kFlow_isLent) (pc_Flow_isLent) (pc_Flow_isLent 0) (i_Flow_isLent_0) = true := by decide +kernel
theorem fit_Flow_isLent_1 : sm_fit (lt_R kFlow_isLent) (lt_n kFlow_isLent) (lt_fl kFlow_isLent).1 (lt_fl kFlow_isLent).2 (lt_r kFlow_isLent) (lt_b kFlow_isLent) (pc_Flow_isLent) (pc_Flow_isLent 1) (i_Flow_isLent_1) = true := by decide +kernel
theorem fit_Flow_isLent_2 : sm_fit (lt_R kFlow_isLent) (lt_n kFlow_isLent) (lt_fl kFlow_isLent).1 (lt_fl kFlow_isLent).2 (lt_r kFlow_isLent) (lt_b kFlow_isLent) (pc_Flow_isLent) (pc_Flow_isLent 2) (i_Flow_isLent_2) = true := by decide +kernel
theorem fit_Flow_isLent_3 : sm_fit (lt_R kFlow_isLent) (lt_n kFlow_isLent) (lt_fl kFlow_isLent).1 (lt_fl kFlow_isLent).2 (lt_r kFlow_isLent) (lt_b kFlow_isLent) (pc_Flow_isLent) (pc_Flow_isLent 3) (i_Flow_isLent_3) = true := by decide +kernel
theorem fit_Flow_isTakenAway_0 : sm_fit (lt_R kFlow_isTakenAway) (lt_n kFlow_isTakenAway) (lt_fl kFlow_isTakenAway).1 (lt_fl kFlow_isTakenAway).2 (lt_r kFlow_isTakenAway) (lt_b kFlow_isTakenAway) (pc_Flow_isTakenAway) (pc_Flow_isTakenAway 0) (i_Flow_isTakenAway_0) = true := by decide +kernel
theorem fit_Flow_isTakenAway_1 : sm_fit (lt_R kFlow_isTakenAway) (lt_n kFlow_isTakenAway) (lt_fl kFlow_isTakenAway).1 (lt_fl kFlow_isTakenAway).2 (lt_r kFlow_isTakenAway) (lt_b kFlow_isTakenAway) (pc_Flow_isTakenAway) (pc_Flow_isTakenAway 1) (i_Flow_isTakenAway_1) = true := by decide +kernel
theorem fit_Flow_isTakenAway_2 : sm_fit (lt_R kFlow_isTakenAway) (lt_n kFlow_isTakenAway) (lt_fl kFlow_isTakenAway).1 (lt_fl kFlow_isTakenAway).2 (lt_r kFlow_isTakenAway) (lt_b kFlow_isTakenAway) (pc_Flow_isTakenAway) (pc_Flow_isTakenAway 2) (i_Flow_isTakenAway_2) = true := by decide +kernel
theorem fit_Flow_isTakenAway_3 : sm_fit (lt_R kFlow_isTakenAway) (lt_n kFlow_isTakenAway) (lt_fl kFlow_isTakenAway).1 (lt_fl kFlow_isTakenAway).2 (lt_r kFlow_isTakenAway) (lt_b kFlow_isTakenAway) (pc_Flow_isTakenAway) (pc_Flow_isTakenAway 3) (i_Flow_isTakenAway_3) = true := by decide +kernel
theorem fit_Flow_isTakenAway_4 : sm_fit (lt_R kFlow_isTakenAway) (lt_n kFlow_isTakenAway) (lt_fl kFlow_isTakenAway).1 (lt_fl kFlow_isTakenAway).2 (lt_r kFlow_isTakenAway) (lt_b kFlow_isTakenAway) (pc_Flow_isTakenAway) (pc_Flow_isTakenAway 4) (i_Flow_isTakenAway_4) = true := by decide +kernel
theorem fit_Flow_findLives_0 : sm_fit (lt_R kFlow_findLives) (lt_n kFlow_findLives) (lt_fl kFlow_findLives).1 (lt_fl kFlow_findLives).2 (lt_r kFlow_findLives) (lt_b kFlow_findLives) (pc_Flow_findLives) (pc_Flow_findLives 0) (i_Flow_findLives_0) = true := by decide +kernel
theorem fit_Flow_findLives_1 : sm_fit (lt_R kFlow_findLives) (lt_n kFlow_findLives) (lt_fl kFlow_findLives).1 (lt_fl kFlow_findLives).2 (lt_r kFlow_findLives) (lt_b kFlow_findLives) (pc_Flow_findLives) (pc_Flow_findLives 1) (i_Flow_findLives_1) = true := by decide +kernel
theorem fit_Flow_findLives_2 : sm_fit (lt_R kFlow_findLives) (lt_n kFlow_findLives) (lt_fl kFlow_findLives).1 (lt_fl kFlow_findLives).2 (lt_r kFlow_findLives) (lt_b kFlow_findLives) (pc_Flow_findLives) (pc_Flow_findLives 2) (i_Flow_findLives_2) = true := by decide +kernel
theorem fit_Flow_findLives_3 : sm_fit (lt_R kFlow_findLives) (lt_n kFlow_findLives) (lt_fl kFlow_findLives).1 (lt_fl kFlow_findLives).2 (lt_r kFlow_findLives) (lt_b kFlow_findLives) (pc_Flow_findLives) (pc_Flow_findLives 3) (i_Flow_findLives_3) = true := by decide +kernel
theorem fit_Flow_findLives_4 : sm_fit (lt_R kFlow_findLives) (lt_n kFlow_findLives) (lt_fl kFlow_findLives).1 (lt_fl kFlow_findLives).2 (lt_r kFlow_findLives) (lt_b kFlow_findLives) (pc_Flow_findLives) (pc_Flow_findLives 4) (i_Flow_findLives_4) = true := by decide +kernel
theorem fit_Flow_findLives_5 : sm_fit (lt_R kFlow_findLives) (lt_n kFlow_findLives) (lt_fl kFlow_findLives).1 (lt_fl kFlow_findLives).2 (lt_r kFlow_findLives) (lt_b kFlow_findLives) (pc_Flow_findLives) (pc_Flow_findLives 5) (i_Flow_findLives_5) = true := by decide +kernel
theorem fit_Flow_findLives_6 : sm_fit (lt_R kFlow_findLives) (lt_n kFlow_findLives) (lt_fl kFlow_findLives).1 (lt_fl kFlow_findLives).2 (lt_r kFlow_findLives) (lt_b kFlow_findLives) (pc_Flow_findLives) (pc_Flow_findLives 6) (i_Flow_findLives_6) = true := by decide +kernel
theorem fit_Flow_findLives_7 : sm_fit (lt_R kFlow_findLives) (lt_n kFlow_findLives) (lt_fl kFlow_findLives).1 (lt_fl kFlow_findLives).2 (lt_r kFlow_findLives) (lt_b kFlow_findLives) (pc_Flow_findLives) (pc_Flow_findLives 7) (i_Flow_findLives_7) = true := by decide +kernel
theorem fit_Flow_findLives_8 : sm_fit (lt_R kFlow_findLives) (lt_n kFlow_findLives) (lt_fl kFlow_findLives).1 (lt_fl kFlow_findLives).2 (lt_r kFlow_findLives) (lt_b kFlow_findLives) (pc_Flow_findLives) (pc_Flow_findLives 8) (i_Flow_findLives_8) = true := by decide +kernel
theorem fit_Flow_findLives_9 : sm_fit (lt_R kFlow_findLives) (lt_n kFlow_findLives) (lt_fl kFlow_findLives).1 (lt_fl kFlow_findLives).2 (lt_r kFlow_findLives) (lt_b kFlow_findLives) (pc_Flow_findLives) (pc_Flow_findLives 9) (i_Flow_findLives_9) = true := by decide +kernel
theorem fit_Flow_findLives_10 : sm_fit (lt_R kFlow_findLives) (lt_n kFlow_findLives) (lt_fl kFlow_findLives).1 (lt_fl kFlow_findLives).2 (lt_r kFlow_findLives) (lt_b kFlow_findLives) (pc_Flow_findLives) (pc_Flow_findLives 10) (i_Flow_findLives_10) = true := by decide +kernel
theorem fit_Flow_livesBehind_0 : sm_fit (lt_R kFlow_livesBehind) (lt_n kFlow_livesBehind) (lt_fl kFlow_livesBehind).1 (lt_fl kFlow_livesBehind).2 (lt_r kFlow_livesBehind) (lt_b kFlow_livesBehind) (pc_Flow_livesBehind) (pc_Flow_livesBehind 0) (i_Flow_livesBehind_0) = true := by decide +kernel
theorem fit_Flow_livesBehind_1 : sm_fit (lt_R kFlow_livesBehind) (lt_n kFlow_livesBehind) (lt_fl kFlow_livesBehind).1 (lt_fl kFlow_livesBehind).2 (lt_r kFlow_livesBehind) (lt_b kFlow_livesBehind) (pc_Flow_livesBehind) (pc_Flow_livesBehind 1) (i_Flow_livesBehind_1) = true := by decide +kernel
theorem fit_Flow_livesBehind_2 : sm_fit (lt_R kFlow_livesBehind) (lt_n kFlow_livesBehind) (lt_fl kFlow_livesBehind).1 (lt_fl kFlow_livesBehind).2 (lt_r kFlow_livesBehind) (lt_b kFlow_livesBehind) (pc_Flow_livesBehind) (pc_Flow_livesBehind 2) (i_Flow_livesBehind_2) = true := by decide +kernel
theorem fit_Flow_livesBehind_3 : sm_fit (lt_R kFlow_livesBehind) (lt_n kFlow_livesBehind) (lt_fl kFlow_livesBehind).1 (lt_fl kFlow_livesBehind).2 (lt_r kFlow_livesBehind) (lt_b kFlow_livesBehind) (pc_Flow_livesBehind) (pc_Flow_livesBehind 3) (i_Flow_livesBehind_3) = true := by decide +kernel
theorem fit_Flow_livesBehind_4 : sm_fit (lt_R kFlow_livesBehind) (lt_n kFlow_livesBehind) (lt_fl kFlow_livesBehind).1 (lt_fl kFlow_livesBehind).2 (lt_r kFlow_livesBehind) (lt_b kFlow_livesBehind) (pc_Flow_livesBehind) (pc_Flow_livesBehind 4) (i_Flow_livesBehind_4) = true := by decide +kernel
theorem fit_Flow_bit_0 : sm_fit (lt_R kFlow_bit) (lt_n kFlow_bit) (lt_fl kFlow_bit).1 (lt_fl kFlow_bit).2 (lt_r kFlow_bit) (lt_b kFlow_bit) (pc_Flow_bit) (pc_Flow_bit 0) (i_Flow_bit_0) = true := by decide +kernel
theorem fit_Flow_bit_1 : sm_fit (lt_R kFlow_bit) (lt_n kFlow_bit) (lt_fl kFlow_bit).1 (lt_fl kFlow_bit).2 (lt_r kFlow_bit) (lt_b kFlow_bit) (pc_Flow_bit) (pc_Flow_bit 1) (i_Flow_bit_1) = true := by decide +kernel
theorem fit_Flow_bit_2 : sm_fit (lt_R kFlow_bit) (lt_n kFlow_bit) (lt_fl kFlow_bit).1 (lt_fl kFlow_bit).2 (lt_r kFlow_bit) (lt_b kFlow_bit) (pc_Flow_bit) (pc_Flow_bit 2) (i_Flow_bit_2) = true := by decide +kernel
theorem fit_Flow_bit_3 : sm_fit (lt_R kFlow_bit) (lt_n kFlow_bit) (lt_fl kFlow_bit).1 (lt_fl kFlow_bit).2 (lt_r kFlow_bit) (lt_b kFlow_bit) (pc_Flow_bit) (pc_Flow_bit 3) (i_Flow_bit_3) = true := by decide +kernel
theorem fit_Flow_bit_4 : sm_fit (lt_R kFlow_bit) (lt_n kFlow_bit) (lt_fl kFlow_bit).1 (lt_fl kFlow_bit).2 (lt_r kFlow_bit) (lt_b kFlow_bit) (pc_Flow_bit) (pc_Flow_bit 4) (i_Flow_bit_4) = true := by decide +kernel
theorem fit_Flow_findError_0 : sm_fit (lt_R kFlow_findError) (lt_n kFlow_findError) (lt_fl kFlow_findError).1 (lt_fl kFlow_findError).2 (lt_r kFlow_findError) (lt_b kFlow_findError) (pc_Flow_findError) (pc_Flow_findError 0) (i_Flow_findError_0) = true := by decide +kernel
theorem fit_Flow_findError_1 : sm_fit (lt_R kFlow_findError) (lt_n kFlow_findError) (lt_fl kFlow_findError).1 (lt_fl kFlow_findError).2 (lt_r kFlow_findError) (lt_b kFlow_findError) (pc_Flow_findError) (pc_Flow_findError 1) (i_Flow_findError_1) = true := by decide +kernel
theorem fit_Flow_findError_2 : sm_fit (lt_R kFlow_findError) (lt_n kFlow_findError) (lt_fl kFlow_findError).1 (lt_fl kFlow_findError).2 (lt_r kFlow_findError) (lt_b kFlow_findError) (pc_Flow_findError) (pc_Flow_findError 2) (i_Flow_findError_2) = true := by decide +kernel
theorem fit_Flow_findError_3 : sm_fit (lt_R kFlow_findError) (lt_n kFlow_findError) (lt_fl kFlow_findError).1 (lt_fl kFlow_findError).2 (lt_r kFlow_findError) (lt_b kFlow_findError) (pc_Flow_findError) (pc_Flow_findError 3) (i_Flow_findError_3) = true := by decide +kernel
theorem fit_Flow_findError_4 : sm_fit (lt_R kFlow_findError) (lt_n kFlow_findError) (lt_fl kFlow_findError).1 (lt_fl kFlow_findError).2 (lt_r kFlow_findError) (lt_b kFlow_findError) (pc_Flow_findError) (pc_Flow_findError 4) (i_Flow_findError_4) = true := by decide +kernel
theorem fit_Flow_findError_5 : sm_fit (lt_R kFlow_findError) (lt_n kFlow_findError) (lt_fl kFlow_findError).1 (lt_fl kFlow_findError).2 (lt_r kFlow_findError) (lt_b kFlow_findError) (pc_Flow_findError) (pc_Flow_findError 5) (i_Flow_findError_5) = true := by decide +kernel
theorem fit_Flow_findError_6 : sm_fit (lt_R kFlow_findError) (lt_n kFlow_findError) (lt_fl kFlow_findError).1 (lt_fl kFlow_findError).2 (lt_r kFlow_findError) (lt_b kFlow_findError) (pc_Flow_findError) (pc_Flow_findError 6) (i_Flow_findError_6) = true := by decide +kernel
theorem fit_Flow_findError_7 : sm_fit (lt_R kFlow_findError) (lt_n kFlow_findError) (lt_fl kFlow_findError).1 (lt_fl kFlow_findError).2 (lt_r kFlow_findError) (lt_b kFlow_findError) (pc_Flow_findError) (pc_Flow_findError 7) (i_Flow_findError_7) = true := by decide +kernel
theorem fit_Flow_findError_8 : sm_fit (lt_R kFlow_findError) (lt_n kFlow_findError) (lt_fl kFlow_findError).1 (lt_fl kFlow_findError).2 (lt_r kFlow_findError) (lt_b kFlow_findError) (pc_Flow_findError) (pc_Flow_findError 8) (i_Flow_findError_8) = true := by decide +kernel
theorem fit_Flow_findError_9 : sm_fit (lt_R kFlow_findError) (lt_n kFlow_findError) (lt_fl kFlow_findError).1 (lt_fl kFlow_findError).2 (lt_r kFlow_findError) (lt_b kFlow_findError) (pc_Flow_findError) (pc_Flow_findError 9) (i_Flow_findError_9) = true := by decide +kernel
theorem fit_Flow_errorAt_0 : sm_fit (lt_R kFlow_errorAt) (lt_n kFlow_errorAt) (lt_fl kFlow_errorAt).1 (lt_fl kFlow_errorAt).2 (lt_r kFlow_errorAt) (lt_b kFlow_errorAt) (pc_Flow_errorAt) (pc_Flow_errorAt 0) (i_Flow_errorAt_0) = true := by decide +kernel
theorem fit_Flow_errorAt_1 : sm_fit (lt_R kFlow_errorAt) (lt_n kFlow_errorAt) (lt_fl kFlow_errorAt).1 (lt_fl kFlow_errorAt).2 (lt_r kFlow_errorAt) (lt_b kFlow_errorAt) (pc_Flow_errorAt) (pc_Flow_errorAt 1) (i_Flow_errorAt_1) = true := by decide +kernel
theorem fit_Flow_errorAt_2 : sm_fit (lt_R kFlow_errorAt) (lt_n kFlow_errorAt) (lt_fl kFlow_errorAt).1 (lt_fl kFlow_errorAt).2 (lt_r kFlow_errorAt) (lt_b kFlow_errorAt) (pc_Flow_errorAt) (pc_Flow_errorAt 2) (i_Flow_errorAt_2) = true := by decide +kernel
theorem fit_Flow_errorAt_3 : sm_fit (lt_R kFlow_errorAt) (lt_n kFlow_errorAt) (lt_fl kFlow_errorAt).1 (lt_fl kFlow_errorAt).2 (lt_r kFlow_errorAt) (lt_b kFlow_errorAt) (pc_Flow_errorAt) (pc_Flow_errorAt 3) (i_Flow_errorAt_3) = true := by decide +kernel
theorem fit_Flow_errorAt_4 : sm_fit (lt_R kFlow_errorAt) (lt_n kFlow_errorAt) (lt_fl kFlow_errorAt).1 (lt_fl kFlow_errorAt).2 (lt_r kFlow_errorAt) (lt_b kFlow_errorAt) (pc_Flow_errorAt) (pc_Flow_errorAt 4) (i_Flow_errorAt_4) = true := by decide +kernel
theorem fit_Flow_errorAt_5 : sm_fit (lt_R kFlow_errorAt) (lt_n kFlow_errorAt) (lt_fl kFlow_errorAt).1 (lt_fl kFlow_errorAt).2 (lt_r kFlow_errorAt) (lt_b kFlow_errorAt) (pc_Flow_errorAt) (pc_Flow_errorAt 5) (i_Flow_errorAt_5) = true := by decide +kernel
theorem fit_Flow_errorAt_6 : sm_fit (lt_R kFlow_errorAt) (lt_n kFlow_errorAt) (lt_fl kFlow_errorAt).1 (lt_fl kFlow_errorAt).2 (lt_r kFlow_errorAt) (lt_b kFlow_errorAt) (pc_Flow_errorAt) (pc_Flow_errorAt 6) (i_Flow_errorAt_6) = true := by decide +kernel
theorem fit_Flow_errorAt_7 : sm_fit (lt_R kFlow_errorAt) (lt_n kFlow_errorAt) (lt_fl kFlow_errorAt).1 (lt_fl kFlow_errorAt).2 (lt_r kFlow_errorAt) (lt_b kFlow_errorAt) (pc_Flow_errorAt) (pc_Flow_errorAt 7) (i_Flow_errorAt_7) = true := by decide +kernel
theorem fit_Flow_errorAt_8 : sm_fit (lt_R kFlow_errorAt) (lt_n kFlow_errorAt) (lt_fl kFlow_errorAt).1 (lt_fl kFlow_errorAt).2 (lt_r kFlow_errorAt) (lt_b kFlow_errorAt) (pc_Flow_errorAt) (pc_Flow_errorAt 8) (i_Flow_errorAt_8) = true := by decide +kernel
theorem fit_Flow_errorAt_9 : sm_fit (lt_R kFlow_errorAt) (lt_n kFlow_errorAt) (lt_fl kFlow_errorAt).1 (lt_fl kFlow_errorAt).2 (lt_r kFlow_errorAt) (lt_b kFlow_errorAt) (pc_Flow_errorAt) (pc_Flow_errorAt 9) (i_Flow_errorAt_9) = true := by decide +kernel
theorem fit_Flow_errorAt_10 : sm_fit (lt_R kFlow_errorAt) (lt_n kFlow_errorAt) (lt_fl kFlow_errorAt).1 (lt_fl kFlow_errorAt).2 (lt_r kFlow_errorAt) (lt_b kFlow_errorAt) (pc_Flow_errorAt) (pc_Flow_errorAt 10) (i_Flow_errorAt_10) = true := by decide +kernel
theorem fit_Flow_errorAt_11 : sm_fit (lt_R kFlow_errorAt) (lt_n kFlow_errorAt) (lt_fl kFlow_errorAt).1 (lt_fl kFlow_errorAt).2 (lt_r kFlow_errorAt) (lt_b kFlow_errorAt) (pc_Flow_errorAt) (pc_Flow_errorAt 11) (i_Flow_errorAt_11) = true := by decide +kernel
theorem fit_Flow_errorAt_12 : sm_fit (lt_R kFlow_errorAt) (lt_n kFlow_errorAt) (lt_fl kFlow_errorAt).1 (lt_fl kFlow_errorAt).2 (lt_r kFlow_errorAt) (lt_b kFlow_errorAt) (pc_Flow_errorAt) (pc_Flow_errorAt 12) (i_Flow_errorAt_12) = true := by decide +kernel
theorem fit_Flow_errorAt_13 : sm_fit (lt_R kFlow_errorAt) (lt_n kFlow_errorAt) (lt_fl kFlow_errorAt).1 (lt_fl kFlow_errorAt).2 (lt_r kFlow_errorAt) (lt_b kFlow_errorAt) (pc_Flow_errorAt) (pc_Flow_errorAt 13) (i_Flow_errorAt_13) = true := by decide +kernel
theorem fit_Flow_errorAt_14 : sm_fit (lt_R kFlow_errorAt) (lt_n kFlow_errorAt) (lt_fl kFlow_errorAt).1 (lt_fl kFlow_errorAt).2 (lt_r kFlow_errorAt) (lt_b kFlow_errorAt) (pc_Flow_errorAt) (pc_Flow_errorAt 14) (i_Flow_errorAt_14) = true := by decide +kernel
theorem fit_Flow_errorAt_15 : sm_fit (lt_R kFlow_errorAt) (lt_n kFlow_errorAt) (lt_fl kFlow_errorAt).1 (lt_fl kFlow_errorAt).2 (lt_r kFlow_errorAt) (lt_b kFlow_errorAt) (pc_Flow_errorAt) (pc_Flow_errorAt 15) (i_Flow_errorAt_15) = true := by decide +kernel
theorem fit_Flow_errorAt_16 : sm_fit (lt_R kFlow_errorAt) (lt_n kFlow_errorAt) (lt_fl kFlow_errorAt).1 (lt_fl kFlow_errorAt).2 (lt_r kFlow_errorAt) (lt_b kFlow_errorAt) (pc_Flow_errorAt) (pc_Flow_errorAt 16) (i_Flow_errorAt_16) = true := by decide +kernel
theorem fit_Flow_errorAt_17 : sm_fit (lt_R kFlow_errorAt) (lt_n kFlow_errorAt) (lt_fl kFlow_errorAt).1 (lt_fl kFlow_errorAt).2 (lt_r kFlow_errorAt) (lt_b kFlow_errorAt) (pc_Flow_errorAt) (pc_Flow_errorAt 17) (i_Flow_errorAt_17) = true := by decide +kernel
theorem fit_Flow_errorAt_18 : sm_fit (lt_R kFlow_errorAt) (lt_n kFlow_errorAt) (lt_fl kFlow_errorAt).1 (lt_fl kFlow_errorAt).2 (lt_r kFlow_errorAt) (lt_b kFlow_errorAt) (pc_Flow_errorAt) (pc_Flow_errorAt 18) (i_Flow_errorAt_18) = true := by decide +kernel
theorem fit_Flow_isUnlike_0 : sm_fit (lt_R kFlow_isUnlike) (lt_n kFlow_isUnlike) (lt_fl kFlow_isUnlike).1 (lt_fl kFlow_isUnlike).2 (lt_r kFlow_isUnlike) (lt_b kFlow_isUnlike) (pc_Flow_isUnlike) (pc_Flow_isUnlike 0) (i_Flow_isUnlike_0) = true := by decide +kernel
theorem fit_Flow_isUnlike_1 : sm_fit (lt_R kFlow_isUnlike) (lt_n kFlow_isUnlike) (lt_fl kFlow_isUnlike).1 (lt_fl kFlow_isUnlike).2 (lt_r kFlow_isUnlike) (lt_b kFlow_isUnlike) (pc_Flow_isUnlike) (pc_Flow_isUnlike 1) (i_Flow_isUnlike_1) = true := by decide +kernel
theorem fit_Flow_isUnlike_2 : sm_fit (lt_R kFlow_isUnlike) (lt_n kFlow_isUnlike) (lt_fl kFlow_isUnlike).1 (lt_fl kFlow_isUnlike).2 (lt_r kFlow_isUnlike) (lt_b kFlow_isUnlike) (pc_Flow_isUnlike) (pc_Flow_isUnlike 2) (i_Flow_isUnlike_2) = true := by decide +kernel
theorem fit_Flow_isUnlike_3 : sm_fit (lt_R kFlow_isUnlike) (lt_n kFlow_isUnlike) (lt_fl kFlow_isUnlike).1 (lt_fl kFlow_isUnlike).2 (lt_r kFlow_isUnlike) (lt_b kFlow_isUnlike) (pc_Flow_isUnlike) (pc_Flow_isUnlike 3) (i_Flow_isUnlike_3) = true := by decide +kernel
theorem fit_Flow_isUnlike_4 : sm_fit (lt_R kFlow_isUnlike) (lt_n kFlow_isUnlike) (lt_fl kFlow_isUnlike).1 (lt_fl kFlow_isUnlike).2 (lt_r kFlow_isUnlike) (lt_b kFlow_isUnlike) (pc_Flow_isUnlike) (pc_Flow_isUnlike 4) (i_Flow_isUnlike_4) = true := by decide +kernel
theorem fit_Flow_isUnlike_5 : sm_fit (lt_R kFlow_isUnlike) (lt_n kFlow_isUnlike) (lt_fl kFlow_isUnlike).1 (lt_fl kFlow_isUnlike).2 (lt_r kFlow_isUnlike) (lt_b kFlow_isUnlike) (pc_Flow_isUnlike) (pc_Flow_isUnlike 5) (i_Flow_isUnlike_5) = true := by decide +kernel
theorem fit_Flow_isUnlike_6 : sm_fit (lt_R kFlow_isUnlike) (lt_n kFlow_isUnlike) (lt_fl kFlow_isUnlike).1 (lt_fl kFlow_isUnlike).2 (lt_r kFlow_isUnlike) (lt_b kFlow_isUnlike) (pc_Flow_isUnlike) (pc_Flow_isUnlike 6) (i_Flow_isUnlike_6) = true := by decide +kernel
theorem fit_Flow_isUnlike_7 : sm_fit (lt_R kFlow_isUnlike) (lt_n kFlow_isUnlike) (lt_fl kFlow_isUnlike).1 (lt_fl kFlow_isUnlike).2 (lt_r kFlow_isUnlike) (lt_b kFlow_isUnlike) (pc_Flow_isUnlike) (pc_Flow_isUnlike 7) (i_Flow_isUnlike_7) = true := by decide +kernel
theorem fit_Flow_isUnlike_8 : sm_fit (lt_R kFlow_isUnlike) (lt_n kFlow_isUnlike) (lt_fl kFlow_isUnlike).1 (lt_fl kFlow_isUnlike).2 (lt_r kFlow_isUnlike) (lt_b kFlow_isUnlike) (pc_Flow_isUnlike) (pc_Flow_isUnlike 8) (i_Flow_isUnlike_8) = true := by decide +kernel
theorem fit_Flow_isUnlike_9 : sm_fit (lt_R kFlow_isUnlike) (lt_n kFlow_isUnlike) (lt_fl kFlow_isUnlike).1 (lt_fl kFlow_isUnlike).2 (lt_r kFlow_isUnlike) (lt_b kFlow_isUnlike) (pc_Flow_isUnlike) (pc_Flow_isUnlike 9) (i_Flow_isUnlike_9) = true := by decide +kernel
theorem fit_Flow_isUnlike_10 : sm_fit (lt_R kFlow_isUnlike) (lt_n kFlow_isUnlike) (lt_fl kFlow_isUnlike).1 (lt_fl kFlow_isUnlike).2 (lt_r kFlow_isUnlike) (lt_b kFlow_isUnlike) (pc_Flow_isUnlike) (pc_Flow_isUnlike 10) (i_Flow_isUnlike_10) = true := by decide +kernel
theorem fit_Flow_endErrorAt_0 : sm_fit (lt_R kFlow_endErrorAt) (lt_n kFlow_endErrorAt) (lt_fl kFlow_endErrorAt).1 (lt_fl kFlow_endErrorAt).2 (lt_r kFlow_endErrorAt) (lt_b kFlow_endErrorAt) (pc_Flow_endErrorAt) (pc_Flow_endErrorAt 0) (i_Flow_endErrorAt_0) = true := by decide +kernel
theorem fit_Flow_endErrorAt_1 : sm_fit (lt_R kFlow_endErrorAt) (lt_n kFlow_endErrorAt) (lt_fl kFlow_endErrorAt).1 (lt_fl kFlow_endErrorAt).2 (lt_r kFlow_endErrorAt) (lt_b kFlow_endErrorAt) (pc_Flow_endErrorAt) (pc_Flow_endErrorAt 1) (i_Flow_endErrorAt_1) = true := by decide +kernel
theorem fit_Flow_endErrorAt_2 : sm_fit (lt_R kFlow_endErrorAt) (lt_n kFlow_endErrorAt) (lt_fl kFlow_endErrorAt).1 (lt_fl kFlow_endErrorAt).2 (lt_r kFlow_endErrorAt) (lt_b kFlow_endErrorAt) (pc_Flow_endErrorAt) (pc_Flow_endErrorAt 2) (i_Flow_endErrorAt_2) = true := by decide +kernel
theorem fit_Flow_endErrorAt_3 : sm_fit (lt_R kFlow_endErrorAt) (lt_n kFlow_endErrorAt) (lt_fl kFlow_endErrorAt).1 (lt_fl kFlow_endErrorAt).2 (lt_r kFlow_endErrorAt) (lt_b kFlow_endErrorAt) (pc_Flow_endErrorAt) (pc_Flow_endErrorAt 3) (i_Flow_endErrorAt_3) = true := by decide +kernel
theorem fit_Flow_endErrorAt_4 : sm_fit (lt_R kFlow_endErrorAt) (lt_n kFlow_endErrorAt) (lt_fl kFlow_endErrorAt).1 (lt_fl kFlow_endErrorAt).2 (lt_r kFlow_endErrorAt) (lt_b kFlow_endErrorAt) (pc_Flow_endErrorAt) (pc_Flow_endErrorAt 4) (i_Flow_endErrorAt_4) = true := by decide +kernel
theorem fit_Flow_endErrorAt_5 : sm_fit (lt_R kFlow_endErrorAt) (lt_n kFlow_endErrorAt) (lt_fl kFlow_endErrorAt).1 (lt_fl kFlow_endErrorAt).2 (lt_r kFlow_endErrorAt) (lt_b kFlow_endErrorAt) (pc_Flow_endErrorAt) (pc_Flow_endErrorAt 5) (i_Flow_endErrorAt_5) = true := by decide +kernel
theorem fit_Flow_endErrorAt_6 : sm_fit (lt_R kFlow_endErrorAt) (lt_n kFlow_endErrorAt) (lt_fl kFlow_endErrorAt).1 (lt_fl kFlow_endErrorAt).2 (lt_r kFlow_endErrorAt) (lt_b kFlow_endErrorAt) (pc_Flow_endErrorAt) (pc_Flow_endErrorAt 6) (i_Flow_endErrorAt_6) = true := by decide +kernel
theorem fit_Flow_endErrorAt_7 : sm_fit (lt_R kFlow_endErrorAt) (lt_n kFlow_endErrorAt) (lt_fl kFlow_endErrorAt).1 (lt_fl kFlow_endErrorAt).2 (lt_r kFlow_endErrorAt) (lt_b kFlow_endErrorAt) (pc_Flow_endErrorAt) (pc_Flow_endErrorAt 7) (i_Flow_endErrorAt_7) = true := by decide +kernel
theorem fit_Flow_endErrorAt_8 : sm_fit (lt_R kFlow_endErrorAt) (lt_n kFlow_endErrorAt) (lt_fl kFlow_endErrorAt).1 (lt_fl kFlow_endErrorAt).2 (lt_r kFlow_endErrorAt) (lt_b kFlow_endErrorAt) (pc_Flow_endErrorAt) (pc_Flow_endErrorAt 8) (i_Flow_endErrorAt_8) = true := by decide +kernel
theorem fit_Flow_endErrorAt_9 : sm_fit (lt_R kFlow_endErrorAt) (lt_n kFlow_endErrorAt) (lt_fl kFlow_endErrorAt).1 (lt_fl kFlow_endErrorAt).2 (lt_r kFlow_endErrorAt) (lt_b kFlow_endErrorAt) (pc_Flow_endErrorAt) (pc_Flow_endErrorAt 9) (i_Flow_endErrorAt_9) = true := by decide +kernel
theorem fit_Flow_endErrorAt_10 : sm_fit (lt_R kFlow_endErrorAt) (lt_n kFlow_endErrorAt) (lt_fl kFlow_endErrorAt).1 (lt_fl kFlow_endErrorAt).2 (lt_r kFlow_endErrorAt) (lt_b kFlow_endErrorAt) (pc_Flow_endErrorAt) (pc_Flow_endErrorAt 10) (i_Flow_endErrorAt_10) = true := by decide +kernel
theorem fit_Flow_endErrorAt_11 : sm_fit (lt_R kFlow_endErrorAt) (lt_n kFlow_endErrorAt) (lt_fl kFlow_endErrorAt).1 (lt_fl kFlow_endErrorAt).2 (lt_r kFlow_endErrorAt) (lt_b kFlow_endErrorAt) (pc_Flow_endErrorAt) (pc_Flow_endErrorAt 11) (i_Flow_endErrorAt_11) = true := by decide +kernel
theorem fit_Flow_isWrongKind_0 : sm_fit (lt_R kFlow_isWrongKind) (lt_n kFlow_isWrongKind) (lt_fl kFlow_isWrongKind).1 (lt_fl kFlow_isWrongKind).2 (lt_r kFlow_isWrongKind) (lt_b kFlow_isWrongKind) (pc_Flow_isWrongKind) (pc_Flow_isWrongKind 0) (i_Flow_isWrongKind_0) = true := by decide +kernel
theorem fit_Flow_isWrongKind_1 : sm_fit (lt_R kFlow_isWrongKind) (lt_n kFlow_isWrongKind) (lt_fl kFlow_isWrongKind).1 (lt_fl kFlow_isWrongKind).2 (lt_r kFlow_isWrongKind) (lt_b kFlow_isWrongKind) (pc_Flow_isWrongKind) (pc_Flow_isWrongKind 1) (i_Flow_isWrongKind_1) = true := by decide +kernel
theorem fit_Flow_isWrongKind_2 : sm_fit (lt_R kFlow_isWrongKind) (lt_n kFlow_isWrongKind) (lt_fl kFlow_isWrongKind).1 (lt_fl kFlow_isWrongKind).2 (lt_r kFlow_isWrongKind) (lt_b kFlow_isWrongKind) (pc_Flow_isWrongKind) (pc_Flow_isWrongKind 2) (i_Flow_isWrongKind_2) = true := by decide +kernel
theorem fit_Flow_isWrongKind_3 : sm_fit (lt_R kFlow_isWrongKind) (lt_n kFlow_isWrongKind) (lt_fl kFlow_isWrongKind).1 (lt_fl kFlow_isWrongKind).2 (lt_r kFlow_isWrongKind) (lt_b kFlow_isWrongKind) (pc_Flow_isWrongKind) (pc_Flow_isWrongKind 3) (i_Flow_isWrongKind_3) = true := by decide +kernel
theorem fit_Flow_isWrongKind_4 : sm_fit (lt_R kFlow_isWrongKind) (lt_n kFlow_isWrongKind) (lt_fl kFlow_isWrongKind).1 (lt_fl kFlow_isWrongKind).2 (lt_r kFlow_isWrongKind) (lt_b kFlow_isWrongKind) (pc_Flow_isWrongKind) (pc_Flow_isWrongKind 4) (i_Flow_isWrongKind_4) = true := by decide +kernel
theorem fit_Flow_isWrongKind_5 : sm_fit (lt_R kFlow_isWrongKind) (lt_n kFlow_isWrongKind) (lt_fl kFlow_isWrongKind).1 (lt_fl kFlow_isWrongKind).2 (lt_r kFlow_isWrongKind) (lt_b kFlow_isWrongKind) (pc_Flow_isWrongKind) (pc_Flow_isWrongKind 5) (i_Flow_isWrongKind_5) = true := by decide +kernel
theorem fit_Flow_isWrongKind_6 : sm_fit (lt_R kFlow_isWrongKind) (lt_n kFlow_isWrongKind) (lt_fl kFlow_isWrongKind).1 (lt_fl kFlow_isWrongKind).2 (lt_r kFlow_isWrongKind) (lt_b kFlow_isWrongKind) (pc_Flow_isWrongKind) (pc_Flow_isWrongKind 6) (i_Flow_isWrongKind_6) = true := by decide +kernel
theorem fit_Flow_isWrongKind_7 : sm_fit (lt_R kFlow_isWrongKind) (lt_n kFlow_isWrongKind) (lt_fl kFlow_isWrongKind).1 (lt_fl kFlow_isWrongKind).2 (lt_r kFlow_isWrongKind) (lt_b kFlow_isWrongKind) (pc_Flow_isWrongKind) (pc_Flow_isWrongKind 7) (i_Flow_isWrongKind_7) = true := by decide +kernel
theorem fit_Flow_isOutOfSession_0 : sm_fit (lt_R kFlow_isOutOfSession) (lt_n kFlow_isOutOfSession) (lt_fl kFlow_isOutOfSession).1 (lt_fl kFlow_isOutOfSession).2 (lt_r kFlow_isOutOfSession) (lt_b kFlow_isOutOfSession) (pc_Flow_isOutOfSession) (pc_Flow_isOutOfSession 0) (i_Flow_isOutOfSession_0) = true := by decide +kernel
theorem fit_Flow_isOutOfSession_1 : sm_fit (lt_R kFlow_isOutOfSession) (lt_n kFlow_isOutOfSession) (lt_fl kFlow_isOutOfSession).1 (lt_fl kFlow_isOutOfSession).2 (lt_r kFlow_isOutOfSession) (lt_b kFlow_isOutOfSession) (pc_Flow_isOutOfSession) (pc_Flow_isOutOfSession 1) (i_Flow_isOutOfSession_1) = true := by decide +kernel
theorem fit_Flow_isOutOfSession_2 : sm_fit (lt_R kFlow_isOutOfSession) (lt_n kFlow_isOutOfSession) (lt_fl kFlow_isOutOfSession).1 (lt_fl kFlow_isOutOfSession).2 (lt_r kFlow_isOutOfSession) (lt_b kFlow_isOutOfSession) (pc_Flow_isOutOfSession) (pc_Flow_isOutOfSession 2) (i_Flow_isOutOfSession_2) = true := by decide +kernel
theorem fit_Flow_isOutOfSession_3 : sm_fit (lt_R kFlow_isOutOfSession) (lt_n kFlow_isOutOfSession) (lt_fl kFlow_isOutOfSession).1 (lt_fl kFlow_isOutOfSession).2 (lt_r kFlow_isOutOfSession) (lt_b kFlow_isOutOfSession) (pc_Flow_isOutOfSession) (pc_Flow_isOutOfSession 3) (i_Flow_isOutOfSession_3) = true := by decide +kernel
theorem fit_Flow_isOutOfSession_4 : sm_fit (lt_R kFlow_isOutOfSession) (lt_n kFlow_isOutOfSession) (lt_fl kFlow_isOutOfSession).1 (lt_fl kFlow_isOutOfSession).2 (lt_r kFlow_isOutOfSession) (lt_b kFlow_isOutOfSession) (pc_Flow_isOutOfSession) (pc_Flow_isOutOfSession 4) (i_Flow_isOutOfSession_4) = true := by decide +kernel
theorem fit_Flow_borrowerAt_0 : sm_fit (lt_R kFlow_borrowerAt) (lt_n kFlow_borrowerAt) (lt_fl kFlow_borrowerAt).1 (lt_fl kFlow_borrowerAt).2 (lt_r kFlow_borrowerAt) (lt_b kFlow_borrowerAt) (pc_Flow_borrowerAt) (pc_Flow_borrowerAt 0) (i_Flow_borrowerAt_0) = true := by decide +kernel
theorem fit_Flow_borrowerAt_1 : sm_fit (lt_R kFlow_borrowerAt) (lt_n kFlow_borrowerAt) (lt_fl kFlow_borrowerAt).1 (lt_fl kFlow_borrowerAt).2 (lt_r kFlow_borrowerAt) (lt_b kFlow_borrowerAt) (pc_Flow_borrowerAt) (pc_Flow_borrowerAt 1) (i_Flow_borrowerAt_1) = true := by decide +kernel
theorem fit_Flow_borrowerAt_2 : sm_fit (lt_R kFlow_borrowerAt) (lt_n kFlow_borrowerAt) (lt_fl kFlow_borrowerAt).1 (lt_fl kFlow_borrowerAt).2 (lt_r kFlow_borrowerAt) (lt_b kFlow_borrowerAt) (pc_Flow_borrowerAt) (pc_Flow_borrowerAt 2) (i_Flow_borrowerAt_2) = true := by decide +kernel
theorem fit_Flow_borrowerAt_3 : sm_fit (lt_R kFlow_borrowerAt) (lt_n kFlow_borrowerAt) (lt_fl kFlow_borrowerAt).1 (lt_fl kFlow_borrowerAt).2 (lt_r kFlow_borrowerAt) (lt_b kFlow_borrowerAt) (pc_Flow_borrowerAt) (pc_Flow_borrowerAt 3) (i_Flow_borrowerAt_3) = true := by decide +kernel
theorem fit_Flow_borrowerAt_4 : sm_fit (lt_R kFlow_borrowerAt) (lt_n kFlow_borrowerAt) (lt_fl kFlow_borrowerAt).1 (lt_fl kFlow_borrowerAt).2 (lt_r kFlow_borrowerAt) (lt_b kFlow_borrowerAt) (pc_Flow_borrowerAt) (pc_Flow_borrowerAt 4) (i_Flow_borrowerAt_4) = true := by decide +kernel
theorem fit_Flow_borrowerAt_5 : sm_fit (lt_R kFlow_borrowerAt) (lt_n kFlow_borrowerAt) (lt_fl kFlow_borrowerAt).1 (lt_fl kFlow_borrowerAt).2 (lt_r kFlow_borrowerAt) (lt_b kFlow_borrowerAt) (pc_Flow_borrowerAt) (pc_Flow_borrowerAt 5) (i_Flow_borrowerAt_5) = true := by decide +kernel
theorem fit_Flow_borrowerAt_6 : sm_fit (lt_R kFlow_borrowerAt) (lt_n kFlow_borrowerAt) (lt_fl kFlow_borrowerAt).1 (lt_fl kFlow_borrowerAt).2 (lt_r kFlow_borrowerAt) (lt_b kFlow_borrowerAt) (pc_Flow_borrowerAt) (pc_Flow_borrowerAt 6) (i_Flow_borrowerAt_6) = true := by decide +kernel
theorem fit_Flow_borrowerAt_7 : sm_fit (lt_R kFlow_borrowerAt) (lt_n kFlow_borrowerAt) (lt_fl kFlow_borrowerAt).1 (lt_fl kFlow_borrowerAt).2 (lt_r kFlow_borrowerAt) (lt_b kFlow_borrowerAt) (pc_Flow_borrowerAt) (pc_Flow_borrowerAt 7) (i_Flow_borrowerAt_7) = true := by decide +kernel
theorem fit_Flow_borrowerAt_8 : sm_fit (lt_R kFlow_borrowerAt) (lt_n kFlow_borrowerAt) (lt_fl kFlow_borrowerAt).1 (lt_fl kFlow_borrowerAt).2 (lt_r kFlow_borrowerAt) (lt_b kFlow_borrowerAt) (pc_Flow_borrowerAt) (pc_Flow_borrowerAt 8) (i_Flow_borrowerAt_8) = true := by decide +kernel
theorem fit_Flow_borrowerAt_9 : sm_fit (lt_R kFlow_borrowerAt) (lt_n kFlow_borrowerAt) (lt_fl kFlow_borrowerAt).1 (lt_fl kFlow_borrowerAt).2 (lt_r kFlow_borrowerAt) (lt_b kFlow_borrowerAt) (pc_Flow_borrowerAt) (pc_Flow_borrowerAt 9) (i_Flow_borrowerAt_9) = true := by decide +kernel
theorem fit_Flow_borrowerAt_10 : sm_fit (lt_R kFlow_borrowerAt) (lt_n kFlow_borrowerAt) (lt_fl kFlow_borrowerAt).1 (lt_fl kFlow_borrowerAt).2 (lt_r kFlow_borrowerAt) (lt_b kFlow_borrowerAt) (pc_Flow_borrowerAt) (pc_Flow_borrowerAt 10) (i_Flow_borrowerAt_10) = true := by decide +kernel
theorem fit_Flow_borrowerAt_11 : sm_fit (lt_R kFlow_borrowerAt) (lt_n kFlow_borrowerAt) (lt_fl kFlow_borrowerAt).1 (lt_fl kFlow_borrowerAt).2 (lt_r kFlow_borrowerAt) (lt_b kFlow_borrowerAt) (pc_Flow_borrowerAt) (pc_Flow_borrowerAt 11) (i_Flow_borrowerAt_11) = true := by decide +kernel
theorem fit_Flow_borrowerAt_12 : sm_fit (lt_R kFlow_borrowerAt) (lt_n kFlow_borrowerAt) (lt_fl kFlow_borrowerAt).1 (lt_fl kFlow_borrowerAt).2 (lt_r kFlow_borrowerAt) (lt_b kFlow_borrowerAt) (pc_Flow_borrowerAt) (pc_Flow_borrowerAt 12) (i_Flow_borrowerAt_12) = true := by decide +kernel
theorem fit_Flow_leavesShares_0 : sm_fit (lt_R kFlow_leavesShares) (lt_n kFlow_leavesShares) (lt_fl kFlow_leavesShares).1 (lt_fl kFlow_leavesShares).2 (lt_r kFlow_leavesShares) (lt_b kFlow_leavesShares) (pc_Flow_leavesShares) (pc_Flow_leavesShares 0) (i_Flow_leavesShares_0) = true := by decide +kernel
theorem fit_Flow_leavesShares_1 : sm_fit (lt_R kFlow_leavesShares) (lt_n kFlow_leavesShares) (lt_fl kFlow_leavesShares).1 (lt_fl kFlow_leavesShares).2 (lt_r kFlow_leavesShares) (lt_b kFlow_leavesShares) (pc_Flow_leavesShares) (pc_Flow_leavesShares 1) (i_Flow_leavesShares_1) = true := by decide +kernel
theorem fit_Flow_leavesShares_2 : sm_fit (lt_R kFlow_leavesShares) (lt_n kFlow_leavesShares) (lt_fl kFlow_leavesShares).1 (lt_fl kFlow_leavesShares).2 (lt_r kFlow_leavesShares) (lt_b kFlow_leavesShares) (pc_Flow_leavesShares) (pc_Flow_leavesShares 2) (i_Flow_leavesShares_2) = true := by decide +kernel
theorem fit_Flow_leavesShares_3 : sm_fit (lt_R kFlow_leavesShares) (lt_n kFlow_leavesShares) (lt_fl kFlow_leavesShares).1 (lt_fl kFlow_leavesShares).2 (lt_r kFlow_leavesShares) (lt_b kFlow_leavesShares) (pc_Flow_leavesShares) (pc_Flow_leavesShares 3) (i_Flow_leavesShares_3) = true := by decide +kernel
theorem fit_Flow_leavesShares_4 : sm_fit (lt_R kFlow_leavesShares) (lt_n kFlow_leavesShares) (lt_fl kFlow_leavesShares).1 (lt_fl kFlow_leavesShares).2 (lt_r kFlow_leavesShares) (lt_b kFlow_leavesShares) (pc_Flow_leavesShares) (pc_Flow_leavesShares 4) (i_Flow_leavesShares_4) = true := by decide +kernel
theorem fit_Flow_leavesShares_5 : sm_fit (lt_R kFlow_leavesShares) (lt_n kFlow_leavesShares) (lt_fl kFlow_leavesShares).1 (lt_fl kFlow_leavesShares).2 (lt_r kFlow_leavesShares) (lt_b kFlow_leavesShares) (pc_Flow_leavesShares) (pc_Flow_leavesShares 5) (i_Flow_leavesShares_5) = true := by decide +kernel
theorem fit_Flow_leavesShares_6 : sm_fit (lt_R kFlow_leavesShares) (lt_n kFlow_leavesShares) (lt_fl kFlow_leavesShares).1 (lt_fl kFlow_leavesShares).2 (lt_r kFlow_leavesShares) (lt_b kFlow_leavesShares) (pc_Flow_leavesShares) (pc_Flow_leavesShares 6) (i_Flow_leavesShares_6) = true := by decide +kernel
theorem fit_Flow_leavesShares_7 : sm_fit (lt_R kFlow_leavesShares) (lt_n kFlow_leavesShares) (lt_fl kFlow_leavesShares).1 (lt_fl kFlow_leavesShares).2 (lt_r kFlow_leavesShares) (lt_b kFlow_leavesShares) (pc_Flow_leavesShares) (pc_Flow_leavesShares 7) (i_Flow_leavesShares_7) = true := by decide +kernel
theorem fit_Flow_lowestBorrower_0 : sm_fit (lt_R kFlow_lowestBorrower) (lt_n kFlow_lowestBorrower) (lt_fl kFlow_lowestBorrower).1 (lt_fl kFlow_lowestBorrower).2 (lt_r kFlow_lowestBorrower) (lt_b kFlow_lowestBorrower) (pc_Flow_lowestBorrower) (pc_Flow_lowestBorrower 0) (i_Flow_lowestBorrower_0) = true := by decide +kernel
theorem fit_Flow_lowestBorrower_1 : sm_fit (lt_R kFlow_lowestBorrower) (lt_n kFlow_lowestBorrower) (lt_fl kFlow_lowestBorrower).1 (lt_fl kFlow_lowestBorrower).2 (lt_r kFlow_lowestBorrower) (lt_b kFlow_lowestBorrower) (pc_Flow_lowestBorrower) (pc_Flow_lowestBorrower 1) (i_Flow_lowestBorrower_1) = true := by decide +kernel
theorem fit_Flow_lowestBorrower_2 : sm_fit (lt_R kFlow_lowestBorrower) (lt_n kFlow_lowestBorrower) (lt_fl kFlow_lowestBorrower).1 (lt_fl kFlow_lowestBorrower).2 (lt_r kFlow_lowestBorrower) (lt_b kFlow_lowestBorrower) (pc_Flow_lowestBorrower) (pc_Flow_lowestBorrower 2) (i_Flow_lowestBorrower_2) = true := by decide +kernel
theorem fit_Flow_lowestBorrower_3 : sm_fit (lt_R kFlow_lowestBorrower) (lt_n kFlow_lowestBorrower) (lt_fl kFlow_lowestBorrower).1 (lt_fl kFlow_lowestBorrower).2 (lt_r kFlow_lowestBorrower) (lt_b kFlow_lowestBorrower) (pc_Flow_lowestBorrower) (pc_Flow_lowestBorrower 3) (i_Flow_lowestBorrower_3) = true := by decide +kernel
theorem fit_Flow_lowestBorrower_4 : sm_fit (lt_R kFlow_lowestBorrower) (lt_n kFlow_lowestBorrower) (lt_fl kFlow_lowestBorrower).1 (lt_fl kFlow_lowestBorrower).2 (lt_r kFlow_lowestBorrower) (lt_b kFlow_lowestBorrower) (pc_Flow_lowestBorrower) (pc_Flow_lowestBorrower 4) (i_Flow_lowestBorrower_4) = true := by decide +kernel
theorem fit_Flow_lowestBorrower_5 : sm_fit (lt_R kFlow_lowestBorrower) (lt_n kFlow_lowestBorrower) (lt_fl kFlow_lowestBorrower).1 (lt_fl kFlow_lowestBorrower).2 (lt_r kFlow_lowestBorrower) (lt_b kFlow_lowestBorrower) (pc_Flow_lowestBorrower) (pc_Flow_lowestBorrower 5) (i_Flow_lowestBorrower_5) = true := by decide +kernel
theorem fit_Flow_lowestBorrower_6 : sm_fit (lt_R kFlow_lowestBorrower) (lt_n kFlow_lowestBorrower) (lt_fl kFlow_lowestBorrower).1 (lt_fl kFlow_lowestBorrower).2 (lt_r kFlow_lowestBorrower) (lt_b kFlow_lowestBorrower) (pc_Flow_lowestBorrower) (pc_Flow_lowestBorrower 6) (i_Flow_lowestBorrower_6) = true := by decide +kernel
theorem fit_Flow_lowestBorrower_7 : sm_fit (lt_R kFlow_lowestBorrower) (lt_n kFlow_lowestBorrower) (lt_fl kFlow_lowestBorrower).1 (lt_fl kFlow_lowestBorrower).2 (lt_r kFlow_lowestBorrower) (lt_b kFlow_lowestBorrower) (pc_Flow_lowestBorrower) (pc_Flow_lowestBorrower 7) (i_Flow_lowestBorrower_7) = true := by decide +kernel
theorem fit_Flow_lowestBorrower_8 : sm_fit (lt_R kFlow_lowestBorrower) (lt_n kFlow_lowestBorrower) (lt_fl kFlow_lowestBorrower).1 (lt_fl kFlow_lowestBorrower).2 (lt_r kFlow_lowestBorrower) (lt_b kFlow_lowestBorrower) (pc_Flow_lowestBorrower) (pc_Flow_lowestBorrower 8) (i_Flow_lowestBorrower_8) = true := by decide +kernel
theorem fit_Flow_lowestBorrower_9 : sm_fit (lt_R kFlow_lowestBorrower) (lt_n kFlow_lowestBorrower) (lt_fl kFlow_lowestBorrower).1 (lt_fl kFlow_lowestBorrower).2 (lt_r kFlow_lowestBorrower) (lt_b kFlow_lowestBorrower) (pc_Flow_lowestBorrower) (pc_Flow_lowestBorrower 9) (i_Flow_lowestBorrower_9) = true := by decide +kernel
theorem fit_Flow_lowestBorrower_10 : sm_fit (lt_R kFlow_lowestBorrower) (lt_n kFlow_lowestBorrower) (lt_fl kFlow_lowestBorrower).1 (lt_fl kFlow_lowestBorrower).2 (lt_r kFlow_lowestBorrower) (lt_b kFlow_lowestBorrower) (pc_Flow_lowestBorrower) (pc_Flow_lowestBorrower 10) (i_Flow_lowestBorrower_10) = true := by decide +kernel
theorem fit_Flow_lowestBorrower_11 : sm_fit (lt_R kFlow_lowestBorrower) (lt_n kFlow_lowestBorrower) (lt_fl kFlow_lowestBorrower).1 (lt_fl kFlow_lowestBorrower).2 (lt_r kFlow_lowestBorrower) (lt_b kFlow_lowestBorrower) (pc_Flow_lowestBorrower) (pc_Flow_lowestBorrower 11) (i_Flow_lowestBorrower_11) = true := by decide +kernel
theorem fit_Layouts_forget_0 : sm_fit (lt_R kLayouts_forget) (lt_n kLayouts_forget) (lt_fl kLayouts_forget).1 (lt_fl kLayouts_forget).2 (lt_r kLayouts_forget) (lt_b kLayouts_forget) (pc_Layouts_forget) (pc_Layouts_forget 0) (i_Layouts_forget_0) = true := by decide +kernel
theorem fit_Layouts_answer_0 : sm_fit (lt_R kLayouts_answer) (lt_n kLayouts_answer) (lt_fl kLayouts_answer).1 (lt_fl kLayouts_answer).2 (lt_r kLayouts_answer) (lt_b kLayouts_answer) (pc_Layouts_answer) (pc_Layouts_answer 0) (i_Layouts_answer_0) = true := by decide +kernel
theorem fit_Layouts_answer_1 : sm_fit (lt_R kLayouts_answer) (lt_n kLayouts_answer) (lt_fl kLayouts_answer).1 (lt_fl kLayouts_answer).2 (lt_r kLayouts_answer) (lt_b kLayouts_answer) (pc_Layouts_answer) (pc_Layouts_answer 1) (i_Layouts_answer_1) = true := by decide +kernel
theorem fit_Layouts_answer_2 : sm_fit (lt_R kLayouts_answer) (lt_n kLayouts_answer) (lt_fl kLayouts_answer).1 (lt_fl kLayouts_answer).2 (lt_r kLayouts_answer) (lt_b kLayouts_answer) (pc_Layouts_answer) (pc_Layouts_answer 2) (i_Layouts_answer_2) = true := by decide +kernel
theorem fit_Layouts_search_0 : sm_fit (lt_R kLayouts_search) (lt_n kLayouts_search) (lt_fl kLayouts_search).1 (lt_fl kLayouts_search).2 (lt_r kLayouts_search) (lt_b kLayouts_search) (pc_Layouts_search) (pc_Layouts_search 0) (i_Layouts_search_0) = true := by decide +kernel
theorem fit_Layouts_search_1 : sm_fit (lt_R kLayouts_search) (lt_n kLayouts_search) (lt_fl kLayouts_search).1 (lt_fl kLayouts_search).2 (lt_r kLayouts_search) (lt_b kLayouts_search) (pc_Layouts_search) (pc_Layouts_search 1) (i_Layouts_search_1) = true := by decide +kernel
theorem fit_Layouts_search_2 : sm_fit (lt_R kLayouts_search) (lt_n kLayouts_search) (lt_fl kLayouts_search).1 (lt_fl kLayouts_search).2 (lt_r kLayouts_search) (lt_b kLayouts_search) (pc_Layouts_search) (pc_Layouts_search 2) (i_Layouts_search_2) = true := by decide +kernel
theorem fit_Layouts_search_3 : sm_fit (lt_R kLayouts_search) (lt_n kLayouts_search) (lt_fl kLayouts_search).1 (lt_fl kLayouts_search).2 (lt_r kLayouts_search) (lt_b kLayouts_search) (pc_Layouts_search) (pc_Layouts_search 3) (i_Layouts_search_3) = true := by decide +kernel
theorem fit_Layouts_search_4 : sm_fit (lt_R kLayouts_search) (lt_n kLayouts_search) (lt_fl kLayouts_search).1 (lt_fl kLayouts_search).2 (lt_r kLayouts_search) (lt_b kLayouts_search) (pc_Layouts_search) (pc_Layouts_search 4) (i_Layouts_search_4) = true := by decide +kernel
theorem fit_Layouts_search_5 : sm_fit (lt_R kLayouts_search) (lt_n kLayouts_search) (lt_fl kLayouts_search).1 (lt_fl kLayouts_search).2 (lt_r kLayouts_search) (lt_b kLayouts_search) (pc_Layouts_search) (pc_Layouts_search 5) (i_Layouts_search_5) = true := by decide +kernel
theorem fit_Layouts_search_6 : sm_fit (lt_R kLayouts_search) (lt_n kLayouts_search) (lt_fl kLayouts_search).1 (lt_fl kLayouts_search).2 (lt_r kLayouts_search) (lt_b kLayouts_search) (pc_Layouts_search) (pc_Layouts_search 6) (i_Layouts_search_6) = true := by decide +kernel
theorem fit_Layouts_search_7 : sm_fit (lt_R kLayouts_search) (lt_n kLayouts_search) (lt_fl kLayouts_search).1 (lt_fl kLayouts_search).2 (lt_r kLayouts_search) (lt_b kLayouts_search) (pc_Layouts_search) (pc_Layouts_search 7) (i_Layouts_search_7) = true := by decide +kernel
theorem fit_Layouts_search_8 : sm_fit (lt_R kLayouts_search) (lt_n kLayouts_search) (lt_fl kLayouts_search).1 (lt_fl kLayouts_search).2 (lt_r kLayouts_search) (lt_b kLayouts_search) (pc_Layouts_search) (pc_Layouts_search 8) (i_Layouts_search_8) = true := by decide +kernel
theorem fit_Layouts_search_9 : sm_fit (lt_R kLayouts_search) (lt_n kLayouts_search) (lt_fl kLayouts_search).1 (lt_fl kLayouts_search).2 (lt_r kLayouts_search) (lt_b kLayouts_search) (pc_Layouts_search) (pc_Layouts_search 9) (i_Layouts_search_9) = true := by decide +kernel
theorem fit_Layouts_search_10 : sm_fit (lt_R kLayouts_search) (lt_n kLayouts_search) (lt_fl kLayouts_search).1 (lt_fl kLayouts_search).2 (lt_r kLayouts_search) (lt_b kLayouts_search) (pc_Layouts_search) (pc_Layouts_search 10) (i_Layouts_search_10) = true := by decide +kernel
theorem fit_Layouts_search_11 : sm_fit (lt_R kLayouts_search) (lt_n kLayouts_search) (lt_fl kLayouts_search).1 (lt_fl kLayouts_search).2 (lt_r kLayouts_search) (lt_b kLayouts_search) (pc_Layouts_search) (pc_Layouts_search 11) (i_Layouts_search_11) = true := by decide +kernel
theorem fit_Layouts_goOn_0 : sm_fit (lt_R kLayouts_goOn) (lt_n kLayouts_goOn) (lt_fl kLayouts_goOn).1 (lt_fl kLayouts_goOn).2 (lt_r kLayouts_goOn) (lt_b kLayouts_goOn) (pc_Layouts_goOn) (pc_Layouts_goOn 0) (i_Layouts_goOn_0) = true := by decide +kernel
theorem fit_Layouts_goOn_1 : sm_fit (lt_R kLayouts_goOn) (lt_n kLayouts_goOn) (lt_fl kLayouts_goOn).1 (lt_fl kLayouts_goOn).2 (lt_r kLayouts_goOn) (lt_b kLayouts_goOn) (pc_Layouts_goOn) (pc_Layouts_goOn 1) (i_Layouts_goOn_1) = true := by decide +kernel
theorem fit_Layouts_goOn_2 : sm_fit (lt_R kLayouts_goOn) (lt_n kLayouts_goOn) (lt_fl kLayouts_goOn).1 (lt_fl kLayouts_goOn).2 (lt_r kLayouts_goOn) (lt_b kLayouts_goOn) (pc_Layouts_goOn) (pc_Layouts_goOn 2) (i_Layouts_goOn_2) = true := by decide +kernel
theorem fit_Layouts_goOn_3 : sm_fit (lt_R kLayouts_goOn) (lt_n kLayouts_goOn) (lt_fl kLayouts_goOn).1 (lt_fl kLayouts_goOn).2 (lt_r kLayouts_goOn) (lt_b kLayouts_goOn) (pc_Layouts_goOn) (pc_Layouts_goOn 3) (i_Layouts_goOn_3) = true := by decide +kernel
theorem fit_Layouts_goOn_4 : sm_fit (lt_R kLayouts_goOn) (lt_n kLayouts_goOn) (lt_fl kLayouts_goOn).1 (lt_fl kLayouts_goOn).2 (lt_r kLayouts_goOn) (lt_b kLayouts_goOn) (pc_Layouts_goOn) (pc_Layouts_goOn 4) (i_Layouts_goOn_4) = true := by decide +kernel
theorem fit_Layouts_goOn_5 : sm_fit (lt_R kLayouts_goOn) (lt_n kLayouts_goOn) (lt_fl kLayouts_goOn).1 (lt_fl kLayouts_goOn).2 (lt_r kLayouts_goOn) (lt_b kLayouts_goOn) (pc_Layouts_goOn) (pc_Layouts_goOn 5) (i_Layouts_goOn_5) = true := by decide +kernel
theorem fit_Layouts_goOn_6 : sm_fit (lt_R kLayouts_goOn) (lt_n kLayouts_goOn) (lt_fl kLayouts_goOn).1 (lt_fl kLayouts_goOn).2 (lt_r kLayouts_goOn) (lt_b kLayouts_goOn) (pc_Layouts_goOn) (pc_Layouts_goOn 6) (i_Layouts_goOn_6) = true := by decide +kernel
theorem fit_Layouts_goOn_7 : sm_fit (lt_R kLayouts_goOn) (lt_n kLayouts_goOn) (lt_fl kLayouts_goOn).1 (lt_fl kLayouts_goOn).2 (lt_r kLayouts_goOn) (lt_b kLayouts_goOn) (pc_Layouts_goOn) (pc_Layouts_goOn 7) (i_Layouts_goOn_7) = true := by decide +kernel
theorem fit_Layouts_goOn_8 : sm_fit (lt_R kLayouts_goOn) (lt_n kLayouts_goOn) (lt_fl kLayouts_goOn).1 (lt_fl kLayouts_goOn).2 (lt_r kLayouts_goOn) (lt_b kLayouts_goOn) (pc_Layouts_goOn) (pc_Layouts_goOn 8) (i_Layouts_goOn_8) = true := by decide +kernel
theorem fit_Layouts_reach_0 : sm_fit (lt_R kLayouts_reach) (lt_n kLayouts_reach) (lt_fl kLayouts_reach).1 (lt_fl kLayouts_reach).2 (lt_r kLayouts_reach) (lt_b kLayouts_reach) (pc_Layouts_reach) (pc_Layouts_reach 0) (i_Layouts_reach_0) = true := by unfold i_Layouts_reach_0; rw [lt_K2_eq]; decide +kernel
theorem fit_Layouts_reach_1 : sm_fit (lt_R kLayouts_reach) (lt_n kLayouts_reach) (lt_fl kLayouts_reach).1 (lt_fl kLayouts_reach).2 (lt_r kLayouts_reach) (lt_b kLayouts_reach) (pc_Layouts_reach) (pc_Layouts_reach 1) (i_Layouts_reach_1) = true := by decide +kernel
theorem fit_Layouts_reach_2 : sm_fit (lt_R kLayouts_reach) (lt_n kLayouts_reach) (lt_fl kLayouts_reach).1 (lt_fl kLayouts_reach).2 (lt_r kLayouts_reach) (lt_b kLayouts_reach) (pc_Layouts_reach) (pc_Layouts_reach 2) (i_Layouts_reach_2) = true := by decide +kernel
theorem fit_Layouts_reach_3 : sm_fit (lt_R kLayouts_reach) (lt_n kLayouts_reach) (lt_fl kLayouts_reach).1 (lt_fl kLayouts_reach).2 (lt_r kLayouts_reach) (lt_b kLayouts_reach) (pc_Layouts_reach) (pc_Layouts_reach 3) (i_Layouts_reach_3) = true := by decide +kernel
theorem fit_Layouts_reach_4 : sm_fit (lt_R kLayouts_reach) (lt_n kLayouts_reach) (lt_fl kLayouts_reach).1 (lt_fl kLayouts_reach).2 (lt_r kLayouts_reach) (lt_b kLayouts_reach) (pc_Layouts_reach) (pc_Layouts_reach 4) (i_Layouts_reach_4) = true := by decide +kernel
theorem fit_Layouts_reach_5 : sm_fit (lt_R kLayouts_reach) (lt_n kLayouts_reach) (lt_fl kLayouts_reach).1 (lt_fl kLayouts_reach).2 (lt_r kLayouts_reach) (lt_b kLayouts_reach) (pc_Layouts_reach) (pc_Layouts_reach 5) (i_Layouts_reach_5) = true := by decide +kernel
theorem fit_Layouts_reach_6 : sm_fit (lt_R kLayouts_reach) (lt_n kLayouts_reach) (lt_fl kLayouts_reach).1 (lt_fl kLayouts_reach).2 (lt_r kLayouts_reach) (lt_b kLayouts_reach) (pc_Layouts_reach) (pc_Layouts_reach 6) (i_Layouts_reach_6) = true := by decide +kernel
theorem fit_Layouts_reach_7 : sm_fit (lt_R kLayouts_reach) (lt_n kLayouts_reach) (lt_fl kLayouts_reach).1 (lt_fl kLayouts_reach).2 (lt_r kLayouts_reach) (lt_b kLayouts_reach) (pc_Layouts_reach) (pc_Layouts_reach 7) (i_Layouts_reach_7) = true := by decide +kernel
theorem fit_Layouts_reach_8 : sm_fit (lt_R kLayouts_reach) (lt_n kLayouts_reach) (lt_fl kLayouts_reach).1 (lt_fl kLayouts_reach).2 (lt_r kLayouts_reach) (lt_b kLayouts_reach) (pc_Layouts_reach) (pc_Layouts_reach 8) (i_Layouts_reach_8) = true := by decide +kernel
theorem fit_Layouts_keep_0 : sm_fit (lt_R kLayouts_keep) (lt_n kLayouts_keep) (lt_fl kLayouts_keep).1 (lt_fl kLayouts_keep).2 (lt_r kLayouts_keep) (lt_b kLayouts_keep) (pc_Layouts_keep) (pc_Layouts_keep 0) (i_Layouts_keep_0) = true := by decide +kernel
theorem fit_Layouts_keep_1 : sm_fit (lt_R kLayouts_keep) (lt_n kLayouts_keep) (lt_fl kLayouts_keep).1 (lt_fl kLayouts_keep).2 (lt_r kLayouts_keep) (lt_b kLayouts_keep) (pc_Layouts_keep) (pc_Layouts_keep 1) (i_Layouts_keep_1) = true := by decide +kernel
theorem fit_Layouts_keep_2 : sm_fit (lt_R kLayouts_keep) (lt_n kLayouts_keep) (lt_fl kLayouts_keep).1 (lt_fl kLayouts_keep).2 (lt_r kLayouts_keep) (lt_b kLayouts_keep) (pc_Layouts_keep) (pc_Layouts_keep 2) (i_Layouts_keep_2) = true := by decide +kernel
theorem fit_Layouts_allEnded_0 : sm_fit (lt_R kLayouts_allEnded) (lt_n kLayouts_allEnded) (lt_fl kLayouts_allEnded).1 (lt_fl kLayouts_allEnded).2 (lt_r kLayouts_allEnded) (lt_b kLayouts_allEnded) (pc_Layouts_allEnded) (pc_Layouts_allEnded 0) (i_Layouts_allEnded_0) = true := by decide +kernel
theorem fit_Layouts_allEnded_1 : sm_fit (lt_R kLayouts_allEnded) (lt_n kLayouts_allEnded) (lt_fl kLayouts_allEnded).1 (lt_fl kLayouts_allEnded).2 (lt_r kLayouts_allEnded) (lt_b kLayouts_allEnded) (pc_Layouts_allEnded) (pc_Layouts_allEnded 1) (i_Layouts_allEnded_1) = true := by decide +kernel
theorem fit_Layouts_allEnded_2 : sm_fit (lt_R kLayouts_allEnded) (lt_n kLayouts_allEnded) (lt_fl kLayouts_allEnded).1 (lt_fl kLayouts_allEnded).2 (lt_r kLayouts_allEnded) (lt_b kLayouts_allEnded) (pc_Layouts_allEnded) (pc_Layouts_allEnded 2) (i_Layouts_allEnded_2) = true := by decide +kernel
theorem fit_Layouts_allEnded_3 : sm_fit (lt_R kLayouts_allEnded) (lt_n kLayouts_allEnded) (lt_fl kLayouts_allEnded).1 (lt_fl kLayouts_allEnded).2 (lt_r kLayouts_allEnded) (lt_b kLayouts_allEnded) (pc_Layouts_allEnded) (pc_Layouts_allEnded 3) (i_Layouts_allEnded_3) = true := by decide +kernel
theorem fit_Layouts_allEnded_4 : sm_fit (lt_R kLayouts_allEnded) (lt_n kLayouts_allEnded) (lt_fl kLayouts_allEnded).1 (lt_fl kLayouts_allEnded).2 (lt_r kLayouts_allEnded) (lt_b kLayouts_allEnded) (pc_Layouts_allEnded) (pc_Layouts_allEnded 4) (i_Layouts_allEnded_4) = true := by decide +kernel
theorem fit_Layouts_allEnded_5 : sm_fit (lt_R kLayouts_allEnded) (lt_n kLayouts_allEnded) (lt_fl kLayouts_allEnded).1 (lt_fl kLayouts_allEnded).2 (lt_r kLayouts_allEnded) (lt_b kLayouts_allEnded) (pc_Layouts_allEnded) (pc_Layouts_allEnded 5) (i_Layouts_allEnded_5) = true := by decide +kernel
theorem fit_Layouts_hasEnded_0 : sm_fit (lt_R kLayouts_hasEnded) (lt_n kLayouts_hasEnded) (lt_fl kLayouts_hasEnded).1 (lt_fl kLayouts_hasEnded).2 (lt_r kLayouts_hasEnded) (lt_b kLayouts_hasEnded) (pc_Layouts_hasEnded) (pc_Layouts_hasEnded 0) (i_Layouts_hasEnded_0) = true := by decide +kernel
theorem fit_Layouts_hasEnded_1 : sm_fit (lt_R kLayouts_hasEnded) (lt_n kLayouts_hasEnded) (lt_fl kLayouts_hasEnded).1 (lt_fl kLayouts_hasEnded).2 (lt_r kLayouts_hasEnded) (lt_b kLayouts_hasEnded) (pc_Layouts_hasEnded) (pc_Layouts_hasEnded 1) (i_Layouts_hasEnded_1) = true := by decide +kernel
theorem fit_Layouts_hasEnded_2 : sm_fit (lt_R kLayouts_hasEnded) (lt_n kLayouts_hasEnded) (lt_fl kLayouts_hasEnded).1 (lt_fl kLayouts_hasEnded).2 (lt_r kLayouts_hasEnded) (lt_b kLayouts_hasEnded) (pc_Layouts_hasEnded) (pc_Layouts_hasEnded 2) (i_Layouts_hasEnded_2) = true := by decide +kernel
theorem fit_Layouts_hasEnded_3 : sm_fit (lt_R kLayouts_hasEnded) (lt_n kLayouts_hasEnded) (lt_fl kLayouts_hasEnded).1 (lt_fl kLayouts_hasEnded).2 (lt_r kLayouts_hasEnded) (lt_b kLayouts_hasEnded) (pc_Layouts_hasEnded) (pc_Layouts_hasEnded 3) (i_Layouts_hasEnded_3) = true := by decide +kernel
theorem fit_Layouts_next_0 : sm_fit (lt_R kLayouts_next) (lt_n kLayouts_next) (lt_fl kLayouts_next).1 (lt_fl kLayouts_next).2 (lt_r kLayouts_next) (lt_b kLayouts_next) (pc_Layouts_next) (pc_Layouts_next 0) (i_Layouts_next_0) = true := by decide +kernel
theorem fit_Layouts_next_1 : sm_fit (lt_R kLayouts_next) (lt_n kLayouts_next) (lt_fl kLayouts_next).1 (lt_fl kLayouts_next).2 (lt_r kLayouts_next) (lt_b kLayouts_next) (pc_Layouts_next) (pc_Layouts_next 1) (i_Layouts_next_1) = true := by decide +kernel
theorem fit_Layouts_next_2 : sm_fit (lt_R kLayouts_next) (lt_n kLayouts_next) (lt_fl kLayouts_next).1 (lt_fl kLayouts_next).2 (lt_r kLayouts_next) (lt_b kLayouts_next) (pc_Layouts_next) (pc_Layouts_next 2) (i_Layouts_next_2) = true := by decide +kernel
theorem fit_Layouts_next_3 : sm_fit (lt_R kLayouts_next) (lt_n kLayouts_next) (lt_fl kLayouts_next).1 (lt_fl kLayouts_next).2 (lt_r kLayouts_next) (lt_b kLayouts_next) (pc_Layouts_next) (pc_Layouts_next 3) (i_Layouts_next_3) = true := by decide +kernel
theorem fit_Layouts_next_4 : sm_fit (lt_R kLayouts_next) (lt_n kLayouts_next) (lt_fl kLayouts_next).1 (lt_fl kLayouts_next).2 (lt_r kLayouts_next) (lt_b kLayouts_next) (pc_Layouts_next) (pc_Layouts_next 4) (i_Layouts_next_4) = true := by decide +kernel
theorem fit_Layouts_next_5 : sm_fit (lt_R kLayouts_next) (lt_n kLayouts_next) (lt_fl kLayouts_next).1 (lt_fl kLayouts_next).2 (lt_r kLayouts_next) (lt_b kLayouts_next) (pc_Layouts_next) (pc_Layouts_next 5) (i_Layouts_next_5) = true := by decide +kernel
theorem fit_Layouts_next_6 : sm_fit (lt_R kLayouts_next) (lt_n kLayouts_next) (lt_fl kLayouts_next).1 (lt_fl kLayouts_next).2 (lt_r kLayouts_next) (lt_b kLayouts_next) (pc_Layouts_next) (pc_Layouts_next 6) (i_Layouts_next_6) = true := by decide +kernel
theorem fit_Layouts_next_7 : sm_fit (lt_R kLayouts_next) (lt_n kLayouts_next) (lt_fl kLayouts_next).1 (lt_fl kLayouts_next).2 (lt_r kLayouts_next) (lt_b kLayouts_next) (pc_Layouts_next) (pc_Layouts_next 7) (i_Layouts_next_7) = true := by decide +kernel
theorem fit_Layouts_next_8 : sm_fit (lt_R kLayouts_next) (lt_n kLayouts_next) (lt_fl kLayouts_next).1 (lt_fl kLayouts_next).2 (lt_r kLayouts_next) (lt_b kLayouts_next) (pc_Layouts_next) (pc_Layouts_next 8) (i_Layouts_next_8) = true := by decide +kernel
theorem fit_Layouts_next_9 : sm_fit (lt_R kLayouts_next) (lt_n kLayouts_next) (lt_fl kLayouts_next).1 (lt_fl kLayouts_next).2 (lt_r kLayouts_next) (lt_b kLayouts_next) (pc_Layouts_next) (pc_Layouts_next 9) (i_Layouts_next_9) = true := by decide +kernel
theorem fit_Layouts_next_10 : sm_fit (lt_R kLayouts_next) (lt_n kLayouts_next) (lt_fl kLayouts_next).1 (lt_fl kLayouts_next).2 (lt_r kLayouts_next) (lt_b kLayouts_next) (pc_Layouts_next) (pc_Layouts_next 10) (i_Layouts_next_10) = true := by decide +kernel
theorem fit_Layouts_next_11 : sm_fit (lt_R kLayouts_next) (lt_n kLayouts_next) (lt_fl kLayouts_next).1 (lt_fl kLayouts_next).2 (lt_r kLayouts_next) (lt_b kLayouts_next) (pc_Layouts_next) (pc_Layouts_next 11) (i_Layouts_next_11) = true := by decide +kernel
theorem fit_Layouts_next_12 : sm_fit (lt_R kLayouts_next) (lt_n kLayouts_next) (lt_fl kLayouts_next).1 (lt_fl kLayouts_next).2 (lt_r kLayouts_next) (lt_b kLayouts_next) (pc_Layouts_next) (pc_Layouts_next 12) (i_Layouts_next_12) = true := by decide +kernel
theorem fit_Layouts_next_13 : sm_fit (lt_R kLayouts_next) (lt_n kLayouts_next) (lt_fl kLayouts_next).1 (lt_fl kLayouts_next).2 (lt_r kLayouts_next) (lt_b kLayouts_next) (pc_Layouts_next) (pc_Layouts_next 13) (i_Layouts_next_13) = true := by decide +kernel
theorem fit_Layouts_moved_0 : sm_fit (lt_R kLayouts_moved) (lt_n kLayouts_moved) (lt_fl kLayouts_moved).1 (lt_fl kLayouts_moved).2 (lt_r kLayouts_moved) (lt_b kLayouts_moved) (pc_Layouts_moved) (pc_Layouts_moved 0) (i_Layouts_moved_0) = true := by decide +kernel
theorem fit_Layouts_posted_0 : sm_fit (lt_R kLayouts_posted) (lt_n kLayouts_posted) (lt_fl kLayouts_posted).1 (lt_fl kLayouts_posted).2 (lt_r kLayouts_posted) (lt_b kLayouts_posted) (pc_Layouts_posted) (pc_Layouts_posted 0) (i_Layouts_posted_0) = true := by decide +kernel
theorem fit_Layouts_posted_1 : sm_fit (lt_R kLayouts_posted) (lt_n kLayouts_posted) (lt_fl kLayouts_posted).1 (lt_fl kLayouts_posted).2 (lt_r kLayouts_posted) (lt_b kLayouts_posted) (pc_Layouts_posted) (pc_Layouts_posted 1) (i_Layouts_posted_1) = true := by decide +kernel
theorem fit_Layouts_posted_2 : sm_fit (lt_R kLayouts_posted) (lt_n kLayouts_posted) (lt_fl kLayouts_posted).1 (lt_fl kLayouts_posted).2 (lt_r kLayouts_posted) (lt_b kLayouts_posted) (pc_Layouts_posted) (pc_Layouts_posted 2) (i_Layouts_posted_2) = true := by decide +kernel
theorem fit_Layouts_posted_3 : sm_fit (lt_R kLayouts_posted) (lt_n kLayouts_posted) (lt_fl kLayouts_posted).1 (lt_fl kLayouts_posted).2 (lt_r kLayouts_posted) (lt_b kLayouts_posted) (pc_Layouts_posted) (pc_Layouts_posted 3) (i_Layouts_posted_3) = true := by decide +kernel
theorem fit_Layouts_posted_4 : sm_fit (lt_R kLayouts_posted) (lt_n kLayouts_posted) (lt_fl kLayouts_posted).1 (lt_fl kLayouts_posted).2 (lt_r kLayouts_posted) (lt_b kLayouts_posted) (pc_Layouts_posted) (pc_Layouts_posted 4) (i_Layouts_posted_4) = true := by decide +kernel
theorem fit_Layouts_posted_5 : sm_fit (lt_R kLayouts_posted) (lt_n kLayouts_posted) (lt_fl kLayouts_posted).1 (lt_fl kLayouts_posted).2 (lt_r kLayouts_posted) (lt_b kLayouts_posted) (pc_Layouts_posted) (pc_Layouts_posted 5) (i_Layouts_posted_5) = true := by decide +kernel
theorem fit_Layouts_posted_6 : sm_fit (lt_R kLayouts_posted) (lt_n kLayouts_posted) (lt_fl kLayouts_posted).1 (lt_fl kLayouts_posted).2 (lt_r kLayouts_posted) (lt_b kLayouts_posted) (pc_Layouts_posted) (pc_Layouts_posted 6) (i_Layouts_posted_6) = true := by decide +kernel
theorem fit_Layouts_received_0 : sm_fit (lt_R kLayouts_received) (lt_n kLayouts_received) (lt_fl kLayouts_received).1 (lt_fl kLayouts_received).2 (lt_r kLayouts_received) (lt_b kLayouts_received) (pc_Layouts_received) (pc_Layouts_received 0) (i_Layouts_received_0) = true := by decide +kernel
theorem fit_Layouts_received_1 : sm_fit (lt_R kLayouts_received) (lt_n kLayouts_received) (lt_fl kLayouts_received).1 (lt_fl kLayouts_received).2 (lt_r kLayouts_received) (lt_b kLayouts_received) (pc_Layouts_received) (pc_Layouts_received 1) (i_Layouts_received_1) = true := by decide +kernel
theorem fit_Layouts_received_2 : sm_fit (lt_R kLayouts_received) (lt_n kLayouts_received) (lt_fl kLayouts_received).1 (lt_fl kLayouts_received).2 (lt_r kLayouts_received) (lt_b kLayouts_received) (pc_Layouts_received) (pc_Layouts_received 2) (i_Layouts_received_2) = true := by decide +kernel
theorem fit_Layouts_received_3 : sm_fit (lt_R kLayouts_received) (lt_n kLayouts_received) (lt_fl kLayouts_received).1 (lt_fl kLayouts_received).2 (lt_r kLayouts_received) (lt_b kLayouts_received) (pc_Layouts_received) (pc_Layouts_received 3) (i_Layouts_received_3) = true := by decide +kernel
theorem fit_Layouts_received_4 : sm_fit (lt_R kLayouts_received) (lt_n kLayouts_received) (lt_fl kLayouts_received).1 (lt_fl kLayouts_received).2 (lt_r kLayouts_received) (lt_b kLayouts_received) (pc_Layouts_received) (pc_Layouts_received 4) (i_Layouts_received_4) = true := by decide +kernel
theorem fit_Layouts_received_5 : sm_fit (lt_R kLayouts_received) (lt_n kLayouts_received) (lt_fl kLayouts_received).1 (lt_fl kLayouts_received).2 (lt_r kLayouts_received) (lt_b kLayouts_received) (pc_Layouts_received) (pc_Layouts_received 5) (i_Layouts_received_5) = true := by decide +kernel
theorem fit_Layouts_received_6 : sm_fit (lt_R kLayouts_received) (lt_n kLayouts_received) (lt_fl kLayouts_received).1 (lt_fl kLayouts_received).2 (lt_r kLayouts_received) (lt_b kLayouts_received) (pc_Layouts_received) (pc_Layouts_received 6) (i_Layouts_received_6) = true := by decide +kernel
theorem fit_Layouts_received_7 : sm_fit (lt_R kLayouts_received) (lt_n kLayouts_received) (lt_fl kLayouts_received).1 (lt_fl kLayouts_received).2 (lt_r kLayouts_received) (lt_b kLayouts_received) (pc_Layouts_received) (pc_Layouts_received 7) (i_Layouts_received_7) = true := by decide +kernel
theorem fit_Layouts_received_8 : sm_fit (lt_R kLayouts_received) (lt_n kLayouts_received) (lt_fl kLayouts_received).1 (lt_fl kLayouts_received).2 (lt_r kLayouts_received) (lt_b kLayouts_received) (pc_Layouts_received) (pc_Layouts_received 8) (i_Layouts_received_8) = true := by decide +kernel
theorem fit_Layouts_received_9 : sm_fit (lt_R kLayouts_received) (lt_n kLayouts_received) (lt_fl kLayouts_received).1 (lt_fl kLayouts_received).2 (lt_r kLayouts_received) (lt_b kLayouts_received) (pc_Layouts_received) (pc_Layouts_received 9) (i_Layouts_received_9) = true := by decide +kernel
theorem fit_Layouts_messageAt_0 : sm_fit (lt_R kLayouts_messageAt) (lt_n kLayouts_messageAt) (lt_fl kLayouts_messageAt).1 (lt_fl kLayouts_messageAt).2 (lt_r kLayouts_messageAt) (lt_b kLayouts_messageAt) (pc_Layouts_messageAt) (pc_Layouts_messageAt 0) (i_Layouts_messageAt_0) = true := by decide +kernel
theorem fit_Layouts_shiftOf_0 : sm_fit (lt_R kLayouts_shiftOf) (lt_n kLayouts_shiftOf) (lt_fl kLayouts_shiftOf).1 (lt_fl kLayouts_shiftOf).2 (lt_r kLayouts_shiftOf) (lt_b kLayouts_shiftOf) (pc_Layouts_shiftOf) (pc_Layouts_shiftOf 0) (i_Layouts_shiftOf_0) = true := by decide +kernel
theorem fit_Ledger_clear_0 : sm_fit (lt_R kLedger_clear) (lt_n kLedger_clear) (lt_fl kLedger_clear).1 (lt_fl kLedger_clear).2 (lt_r kLedger_clear) (lt_b kLedger_clear) (pc_Ledger_clear) (pc_Ledger_clear 0) (i_Ledger_clear_0) = true := by decide +kernel
theorem fit_Ledger_numbered_0 : sm_fit (lt_R kLedger_numbered) (lt_n kLedger_numbered) (lt_fl kLedger_numbered).1 (lt_fl kLedger_numbered).2 (lt_r kLedger_numbered) (lt_b kLedger_numbered) (pc_Ledger_numbered) (pc_Ledger_numbered 0) (i_Ledger_numbered_0) = true := by decide +kernel
theorem fit_Ledger_told_0 : sm_fit (lt_R kLedger_told) (lt_n kLedger_told) (lt_fl kLedger_told).1 (lt_fl kLedger_told).2 (lt_r kLedger_told) (lt_b kLedger_told) (pc_Ledger_told) (pc_Ledger_told 0) (i_Ledger_told_0) = true := by decide +kernel
theorem fit_Ledger_droppedAt_0 : sm_fit (lt_R kLedger_droppedAt) (lt_n kLedger_droppedAt) (lt_fl kLedger_droppedAt).1 (lt_fl kLedger_droppedAt).2 (lt_r kLedger_droppedAt) (lt_b kLedger_droppedAt) (pc_Ledger_droppedAt) (pc_Ledger_droppedAt 0) (i_Ledger_droppedAt_0) = true := by decide +kernel
theorem fit_Ledger_droppedAt_1 : sm_fit (lt_R kLedger_droppedAt) (lt_n kLedger_droppedAt) (lt_fl kLedger_droppedAt).1 (lt_fl kLedger_droppedAt).2 (lt_r kLedger_droppedAt) (lt_b kLedger_droppedAt) (pc_Ledger_droppedAt) (pc_Ledger_droppedAt 1) (i_Ledger_droppedAt_1) = true := by decide +kernel
theorem fit_Ledger_droppedAt_2 : sm_fit (lt_R kLedger_droppedAt) (lt_n kLedger_droppedAt) (lt_fl kLedger_droppedAt).1 (lt_fl kLedger_droppedAt).2 (lt_r kLedger_droppedAt) (lt_b kLedger_droppedAt) (pc_Ledger_droppedAt) (pc_Ledger_droppedAt 2) (i_Ledger_droppedAt_2) = true := by decide +kernel
theorem fit_Ledger_droppedAt_3 : sm_fit (lt_R kLedger_droppedAt) (lt_n kLedger_droppedAt) (lt_fl kLedger_droppedAt).1 (lt_fl kLedger_droppedAt).2 (lt_r kLedger_droppedAt) (lt_b kLedger_droppedAt) (pc_Ledger_droppedAt) (pc_Ledger_droppedAt 3) (i_Ledger_droppedAt_3) = true := by decide +kernel
theorem fit_Ledger_newValue_0 : sm_fit (lt_R kLedger_newValue) (lt_n kLedger_newValue) (lt_fl kLedger_newValue).1 (lt_fl kLedger_newValue).2 (lt_r kLedger_newValue) (lt_b kLedger_newValue) (pc_Ledger_newValue) (pc_Ledger_newValue 0) (i_Ledger_newValue_0) = true := by decide +kernel
theorem fit_Ledger_newTime_0 : sm_fit (lt_R kLedger_newTime) (lt_n kLedger_newTime) (lt_fl kLedger_newTime).1 (lt_fl kLedger_newTime).2 (lt_r kLedger_newTime) (lt_b kLedger_newTime) (pc_Ledger_newTime) (pc_Ledger_newTime 0) (i_Ledger_newTime_0) = true := by decide +kernel
theorem fit_Ledger_drop_0 : sm_fit (lt_R kLedger_drop) (lt_n kLedger_drop) (lt_fl kLedger_drop).1 (lt_fl kLedger_drop).2 (lt_r kLedger_drop) (lt_b kLedger_drop) (pc_Ledger_drop) (pc_Ledger_drop 0) (i_Ledger_drop_0) = true := by decide +kernel
theorem fit_Ledger_drop_1 : sm_fit (lt_R kLedger_drop) (lt_n kLedger_drop) (lt_fl kLedger_drop).1 (lt_fl kLedger_drop).2 (lt_r kLedger_drop) (lt_b kLedger_drop) (pc_Ledger_drop) (pc_Ledger_drop 1) (i_Ledger_drop_1) = true := by decide +kernel
theorem fit_Ledger_drop_2 : sm_fit (lt_R kLedger_drop) (lt_n kLedger_drop) (lt_fl kLedger_drop).1 (lt_fl kLedger_drop).2 (lt_r kLedger_drop) (lt_b kLedger_drop) (pc_Ledger_drop) (pc_Ledger_drop 2) (i_Ledger_drop_2) = true := by decide +kernel
theorem fit_Messages_clear_0 : sm_fit (lt_R kMessages_clear) (lt_n kMessages_clear) (lt_fl kMessages_clear).1 (lt_fl kMessages_clear).2 (lt_r kMessages_clear) (lt_b kMessages_clear) (pc_Messages_clear) (pc_Messages_clear 0) (i_Messages_clear_0) = true := by decide +kernel
theorem fit_Messages_size_0 : sm_fit (lt_R kMessages_size) (lt_n kMessages_size) (lt_fl kMessages_size).1 (lt_fl kMessages_size).2 (lt_r kMessages_size) (lt_b kMessages_size) (pc_Messages_size) (pc_Messages_size 0) (i_Messages_size_0) = true := by decide +kernel
theorem fit_Messages_size_1 : sm_fit (lt_R kMessages_size) (lt_n kMessages_size) (lt_fl kMessages_size).1 (lt_fl kMessages_size).2 (lt_r kMessages_size) (lt_b kMessages_size) (pc_Messages_size) (pc_Messages_size 1) (i_Messages_size_1) = true := by decide +kernel
theorem fit_Messages_size_2 : sm_fit (lt_R kMessages_size) (lt_n kMessages_size) (lt_fl kMessages_size).1 (lt_fl kMessages_size).2 (lt_r kMessages_size) (lt_b kMessages_size) (pc_Messages_size) (pc_Messages_size 2) (i_Messages_size_2) = true := by decide +kernel
theorem fit_Messages_size_3 : sm_fit (lt_R kMessages_size) (lt_n kMessages_size) (lt_fl kMessages_size).1 (lt_fl kMessages_size).2 (lt_r kMessages_size) (lt_b kMessages_size) (pc_Messages_size) (pc_Messages_size 3) (i_Messages_size_3) = true := by decide +kernel
theorem fit_Messages_valueAt_0 : sm_fit (lt_R kMessages_valueAt) (lt_n kMessages_valueAt) (lt_fl kMessages_valueAt).1 (lt_fl kMessages_valueAt).2 (lt_r kMessages_valueAt) (lt_b kMessages_valueAt) (pc_Messages_valueAt) (pc_Messages_valueAt 0) (i_Messages_valueAt_0) = true := by decide +kernel
theorem fit_Messages_valueAt_1 : sm_fit (lt_R kMessages_valueAt) (lt_n kMessages_valueAt) (lt_fl kMessages_valueAt).1 (lt_fl kMessages_valueAt).2 (lt_r kMessages_valueAt) (lt_b kMessages_valueAt) (pc_Messages_valueAt) (pc_Messages_valueAt 1) (i_Messages_valueAt_1) = true := by decide +kernel
theorem fit_Messages_valueAt_2 : sm_fit (lt_R kMessages_valueAt) (lt_n kMessages_valueAt) (lt_fl kMessages_valueAt).1 (lt_fl kMessages_valueAt).2 (lt_r kMessages_valueAt) (lt_b kMessages_valueAt) (pc_Messages_valueAt) (pc_Messages_valueAt 2) (i_Messages_valueAt_2) = true := by decide +kernel
theorem fit_Messages_valueAt_3 : sm_fit (lt_R kMessages_valueAt) (lt_n kMessages_valueAt) (lt_fl kMessages_valueAt).1 (lt_fl kMessages_valueAt).2 (lt_r kMessages_valueAt) (lt_b kMessages_valueAt) (pc_Messages_valueAt) (pc_Messages_valueAt 3) (i_Messages_valueAt_3) = true := by decide +kernel
theorem fit_Messages_firstMark_0 : sm_fit (lt_R kMessages_firstMark) (lt_n kMessages_firstMark) (lt_fl kMessages_firstMark).1 (lt_fl kMessages_firstMark).2 (lt_r kMessages_firstMark) (lt_b kMessages_firstMark) (pc_Messages_firstMark) (pc_Messages_firstMark 0) (i_Messages_firstMark_0) = true := by decide +kernel
theorem fit_Messages_firstMark_1 : sm_fit (lt_R kMessages_firstMark) (lt_n kMessages_firstMark) (lt_fl kMessages_firstMark).1 (lt_fl kMessages_firstMark).2 (lt_r kMessages_firstMark) (lt_b kMessages_firstMark) (pc_Messages_firstMark) (pc_Messages_firstMark 1) (i_Messages_firstMark_1) = true := by decide +kernel
theorem fit_Messages_firstMark_2 : sm_fit (lt_R kMessages_firstMark) (lt_n kMessages_firstMark) (lt_fl kMessages_firstMark).1 (lt_fl kMessages_firstMark).2 (lt_r kMessages_firstMark) (lt_b kMessages_firstMark) (pc_Messages_firstMark) (pc_Messages_firstMark 2) (i_Messages_firstMark_2) = true := by decide +kernel
theorem fit_Messages_firstMark_3 : sm_fit (lt_R kMessages_firstMark) (lt_n kMessages_firstMark) (lt_fl kMessages_firstMark).1 (lt_fl kMessages_firstMark).2 (lt_r kMessages_firstMark) (lt_b kMessages_firstMark) (pc_Messages_firstMark) (pc_Messages_firstMark 3) (i_Messages_firstMark_3) = true := by decide +kernel
theorem fit_Messages_add_0 : sm_fit (lt_R kMessages_add) (lt_n kMessages_add) (lt_fl kMessages_add).1 (lt_fl kMessages_add).2 (lt_r kMessages_add) (lt_b kMessages_add) (pc_Messages_add) (pc_Messages_add 0) (i_Messages_add_0) = true := by decide +kernel
theorem fit_Messages_add_1 : sm_fit (lt_R kMessages_add) (lt_n kMessages_add) (lt_fl kMessages_add).1 (lt_fl kMessages_add).2 (lt_r kMessages_add) (lt_b kMessages_add) (pc_Messages_add) (pc_Messages_add 1) (i_Messages_add_1) = true := by decide +kernel
theorem fit_Messages_add_2 : sm_fit (lt_R kMessages_add) (lt_n kMessages_add) (lt_fl kMessages_add).1 (lt_fl kMessages_add).2 (lt_r kMessages_add) (lt_b kMessages_add) (pc_Messages_add) (pc_Messages_add 2) (i_Messages_add_2) = true := by decide +kernel
theorem fit_Messages_add_3 : sm_fit (lt_R kMessages_add) (lt_n kMessages_add) (lt_fl kMessages_add).1 (lt_fl kMessages_add).2 (lt_r kMessages_add) (lt_b kMessages_add) (pc_Messages_add) (pc_Messages_add 3) (i_Messages_add_3) = true := by decide +kernel
theorem fit_Messages_removeFirst_0 : sm_fit (lt_R kMessages_removeFirst) (lt_n kMessages_removeFirst) (lt_fl kMessages_removeFirst).1 (lt_fl kMessages_removeFirst).2 (lt_r kMessages_removeFirst) (lt_b kMessages_removeFirst) (pc_Messages_removeFirst) (pc_Messages_removeFirst 0) (i_Messages_removeFirst_0) = true := by decide +kernel
theorem fit_Messages_removeFirst_1 : sm_fit (lt_R kMessages_removeFirst) (lt_n kMessages_removeFirst) (lt_fl kMessages_removeFirst).1 (lt_fl kMessages_removeFirst).2 (lt_r kMessages_removeFirst) (lt_b kMessages_removeFirst) (pc_Messages_removeFirst) (pc_Messages_removeFirst 1) (i_Messages_removeFirst_1) = true := by decide +kernel
theorem fit_Messages_removeFirst_2 : sm_fit (lt_R kMessages_removeFirst) (lt_n kMessages_removeFirst) (lt_fl kMessages_removeFirst).1 (lt_fl kMessages_removeFirst).2 (lt_r kMessages_removeFirst) (lt_b kMessages_removeFirst) (pc_Messages_removeFirst) (pc_Messages_removeFirst 2) (i_Messages_removeFirst_2) = true := by decide +kernel
theorem fit_Messages_removeFirst_3 : sm_fit (lt_R kMessages_removeFirst) (lt_n kMessages_removeFirst) (lt_fl kMessages_removeFirst).1 (lt_fl kMessages_removeFirst).2 (lt_r kMessages_removeFirst) (lt_b kMessages_removeFirst) (pc_Messages_removeFirst) (pc_Messages_removeFirst 3) (i_Messages_removeFirst_3) = true := by decide +kernel
theorem fit_Messages_removeFirst_4 : sm_fit (lt_R kMessages_removeFirst) (lt_n kMessages_removeFirst) (lt_fl kMessages_removeFirst).1 (lt_fl kMessages_removeFirst).2 (lt_r kMessages_removeFirst) (lt_b kMessages_removeFirst) (pc_Messages_removeFirst) (pc_Messages_removeFirst 4) (i_Messages_removeFirst_4) = true := by decide +kernel
theorem fit_Messages_removeFirst_5 : sm_fit (lt_R kMessages_removeFirst) (lt_n kMessages_removeFirst) (lt_fl kMessages_removeFirst).1 (lt_fl kMessages_removeFirst).2 (lt_r kMessages_removeFirst) (lt_b kMessages_removeFirst) (pc_Messages_removeFirst) (pc_Messages_removeFirst 5) (i_Messages_removeFirst_5) = true := by decide +kernel
theorem fit_Messages_removeFirst_6 : sm_fit (lt_R kMessages_removeFirst) (lt_n kMessages_removeFirst) (lt_fl kMessages_removeFirst).1 (lt_fl kMessages_removeFirst).2 (lt_r kMessages_removeFirst) (lt_b kMessages_removeFirst) (pc_Messages_removeFirst) (pc_Messages_removeFirst 6) (i_Messages_removeFirst_6) = true := by decide +kernel
theorem fit_Messages_empty_0 : sm_fit (lt_R kMessages_empty) (lt_n kMessages_empty) (lt_fl kMessages_empty).1 (lt_fl kMessages_empty).2 (lt_r kMessages_empty) (lt_b kMessages_empty) (pc_Messages_empty) (pc_Messages_empty 0) (i_Messages_empty_0) = true := by decide +kernel
theorem fit_Messages_empty_1 : sm_fit (lt_R kMessages_empty) (lt_n kMessages_empty) (lt_fl kMessages_empty).1 (lt_fl kMessages_empty).2 (lt_r kMessages_empty) (lt_b kMessages_empty) (pc_Messages_empty) (pc_Messages_empty 1) (i_Messages_empty_1) = true := by decide +kernel
theorem fit_Messages_empty_2 : sm_fit (lt_R kMessages_empty) (lt_n kMessages_empty) (lt_fl kMessages_empty).1 (lt_fl kMessages_empty).2 (lt_r kMessages_empty) (lt_b kMessages_empty) (pc_Messages_empty) (pc_Messages_empty 2) (i_Messages_empty_2) = true := by decide +kernel
theorem fit_Protocol_allows_0 : sm_fit (lt_R kProtocol_allows) (lt_n kProtocol_allows) (lt_fl kProtocol_allows).1 (lt_fl kProtocol_allows).2 (lt_r kProtocol_allows) (lt_b kProtocol_allows) (pc_Protocol_allows) (pc_Protocol_allows 0) (i_Protocol_allows_0) = true := by decide +kernel
theorem fit_Protocol_allows_1 : sm_fit (lt_R kProtocol_allows) (lt_n kProtocol_allows) (lt_fl kProtocol_allows).1 (lt_fl kProtocol_allows).2 (lt_r kProtocol_allows) (lt_b kProtocol_allows) (pc_Protocol_allows) (pc_Protocol_allows 1) (i_Protocol_allows_1) = true := by decide +kernel
theorem fit_Protocol_allows_2 : sm_fit (lt_R kProtocol_allows) (lt_n kProtocol_allows) (lt_fl kProtocol_allows).1 (lt_fl kProtocol_allows).2 (lt_r kProtocol_allows) (lt_b kProtocol_allows) (pc_Protocol_allows) (pc_Protocol_allows 2) (i_Protocol_allows_2) = true := by decide +kernel
theorem fit_Protocol_allows_3 : sm_fit (lt_R kProtocol_allows) (lt_n kProtocol_allows) (lt_fl kProtocol_allows).1 (lt_fl kProtocol_allows).2 (lt_r kProtocol_allows) (lt_b kProtocol_allows) (pc_Protocol_allows) (pc_Protocol_allows 3) (i_Protocol_allows_3) = true := by decide +kernel
theorem fit_Protocol_allows_4 : sm_fit (lt_R kProtocol_allows) (lt_n kProtocol_allows) (lt_fl kProtocol_allows).1 (lt_fl kProtocol_allows).2 (lt_r kProtocol_allows) (lt_b kProtocol_allows) (pc_Protocol_allows) (pc_Protocol_allows 4) (i_Protocol_allows_4) = true := by decide +kernel
theorem fit_Protocol_allows_5 : sm_fit (lt_R kProtocol_allows) (lt_n kProtocol_allows) (lt_fl kProtocol_allows).1 (lt_fl kProtocol_allows).2 (lt_r kProtocol_allows) (lt_b kProtocol_allows) (pc_Protocol_allows) (pc_Protocol_allows 5) (i_Protocol_allows_5) = true := by decide +kernel
theorem fit_Protocol_allows_6 : sm_fit (lt_R kProtocol_allows) (lt_n kProtocol_allows) (lt_fl kProtocol_allows).1 (lt_fl kProtocol_allows).2 (lt_r kProtocol_allows) (lt_b kProtocol_allows) (pc_Protocol_allows) (pc_Protocol_allows 6) (i_Protocol_allows_6) = true := by decide +kernel
theorem fit_Protocol_allows_7 : sm_fit (lt_R kProtocol_allows) (lt_n kProtocol_allows) (lt_fl kProtocol_allows).1 (lt_fl kProtocol_allows).2 (lt_r kProtocol_allows) (lt_b kProtocol_allows) (pc_Protocol_allows) (pc_Protocol_allows 7) (i_Protocol_allows_7) = true := by decide +kernel
theorem fit_Protocol_allows_8 : sm_fit (lt_R kProtocol_allows) (lt_n kProtocol_allows) (lt_fl kProtocol_allows).1 (lt_fl kProtocol_allows).2 (lt_r kProtocol_allows) (lt_b kProtocol_allows) (pc_Protocol_allows) (pc_Protocol_allows 8) (i_Protocol_allows_8) = true := by decide +kernel
theorem fit_Protocol_allows_9 : sm_fit (lt_R kProtocol_allows) (lt_n kProtocol_allows) (lt_fl kProtocol_allows).1 (lt_fl kProtocol_allows).2 (lt_r kProtocol_allows) (lt_b kProtocol_allows) (pc_Protocol_allows) (pc_Protocol_allows 9) (i_Protocol_allows_9) = true := by decide +kernel
theorem fit_Protocol_allows_10 : sm_fit (lt_R kProtocol_allows) (lt_n kProtocol_allows) (lt_fl kProtocol_allows).1 (lt_fl kProtocol_allows).2 (lt_r kProtocol_allows) (lt_b kProtocol_allows) (pc_Protocol_allows) (pc_Protocol_allows 10) (i_Protocol_allows_10) = true := by decide +kernel
theorem fit_Protocol_allows_11 : sm_fit (lt_R kProtocol_allows) (lt_n kProtocol_allows) (lt_fl kProtocol_allows).1 (lt_fl kProtocol_allows).2 (lt_r kProtocol_allows) (lt_b kProtocol_allows) (pc_Protocol_allows) (pc_Protocol_allows 11) (i_Protocol_allows_11) = true := by decide +kernel
theorem fit_Protocol_allows_12 : sm_fit (lt_R kProtocol_allows) (lt_n kProtocol_allows) (lt_fl kProtocol_allows).1 (lt_fl kProtocol_allows).2 (lt_r kProtocol_allows) (lt_b kProtocol_allows) (pc_Protocol_allows) (pc_Protocol_allows 12) (i_Protocol_allows_12) = true := by decide +kernel
theorem fit_Protocol_allows_13 : sm_fit (lt_R kProtocol_allows) (lt_n kProtocol_allows) (lt_fl kProtocol_allows).1 (lt_fl kProtocol_allows).2 (lt_r kProtocol_allows) (lt_b kProtocol_allows) (pc_Protocol_allows) (pc_Protocol_allows 13) (i_Protocol_allows_13) = true := by decide +kernel
theorem fit_Protocol_allows_14 : sm_fit (lt_R kProtocol_allows) (lt_n kProtocol_allows) (lt_fl kProtocol_allows).1 (lt_fl kProtocol_allows).2 (lt_r kProtocol_allows) (lt_b kProtocol_allows) (pc_Protocol_allows) (pc_Protocol_allows 14) (i_Protocol_allows_14) = true := by decide +kernel
theorem fit_Protocol_size_0 : sm_fit (lt_R kProtocol_size) (lt_n kProtocol_size) (lt_fl kProtocol_size).1 (lt_fl kProtocol_size).2 (lt_r kProtocol_size) (lt_b kProtocol_size) (pc_Protocol_size) (pc_Protocol_size 0) (i_Protocol_size_0) = true := by decide +kernel
theorem fit_Protocol_isFull_0 : sm_fit (lt_R kProtocol_isFull) (lt_n kProtocol_isFull) (lt_fl kProtocol_isFull).1 (lt_fl kProtocol_isFull).2 (lt_r kProtocol_isFull) (lt_b kProtocol_isFull) (pc_Protocol_isFull) (pc_Protocol_isFull 0) (i_Protocol_isFull_0) = true := by decide +kernel
theorem fit_Protocol_isFull_1 : sm_fit (lt_R kProtocol_isFull) (lt_n kProtocol_isFull) (lt_fl kProtocol_isFull).1 (lt_fl kProtocol_isFull).2 (lt_r kProtocol_isFull) (lt_b kProtocol_isFull) (pc_Protocol_isFull) (pc_Protocol_isFull 1) (i_Protocol_isFull_1) = true := by decide +kernel
theorem fit_Protocol_isFull_2 : sm_fit (lt_R kProtocol_isFull) (lt_n kProtocol_isFull) (lt_fl kProtocol_isFull).1 (lt_fl kProtocol_isFull).2 (lt_r kProtocol_isFull) (lt_b kProtocol_isFull) (pc_Protocol_isFull) (pc_Protocol_isFull 2) (i_Protocol_isFull_2) = true := by decide +kernel
theorem fit_Protocol_isFull_3 : sm_fit (lt_R kProtocol_isFull) (lt_n kProtocol_isFull) (lt_fl kProtocol_isFull).1 (lt_fl kProtocol_isFull).2 (lt_r kProtocol_isFull) (lt_b kProtocol_isFull) (pc_Protocol_isFull) (pc_Protocol_isFull 3) (i_Protocol_isFull_3) = true := by decide +kernel
theorem fit_Protocol_add_0 : sm_fit (lt_R kProtocol_add) (lt_n kProtocol_add) (lt_fl kProtocol_add).1 (lt_fl kProtocol_add).2 (lt_r kProtocol_add) (lt_b kProtocol_add) (pc_Protocol_add) (pc_Protocol_add 0) (i_Protocol_add_0) = true := by decide +kernel
theorem fit_Protocol_add_1 : sm_fit (lt_R kProtocol_add) (lt_n kProtocol_add) (lt_fl kProtocol_add).1 (lt_fl kProtocol_add).2 (lt_r kProtocol_add) (lt_b kProtocol_add) (pc_Protocol_add) (pc_Protocol_add 1) (i_Protocol_add_1) = true := by decide +kernel
theorem fit_Protocol_add_2 : sm_fit (lt_R kProtocol_add) (lt_n kProtocol_add) (lt_fl kProtocol_add).1 (lt_fl kProtocol_add).2 (lt_r kProtocol_add) (lt_b kProtocol_add) (pc_Protocol_add) (pc_Protocol_add 2) (i_Protocol_add_2) = true := by decide +kernel
theorem fit_Protocol_isWhole_0 : sm_fit (lt_R kProtocol_isWhole) (lt_n kProtocol_isWhole) (lt_fl kProtocol_isWhole).1 (lt_fl kProtocol_isWhole).2 (lt_r kProtocol_isWhole) (lt_b kProtocol_isWhole) (pc_Protocol_isWhole) (pc_Protocol_isWhole 0) (i_Protocol_isWhole_0) = true := by decide +kernel
theorem fit_Protocol_isWhole_1 : sm_fit (lt_R kProtocol_isWhole) (lt_n kProtocol_isWhole) (lt_fl kProtocol_isWhole).1 (lt_fl kProtocol_isWhole).2 (lt_r kProtocol_isWhole) (lt_b kProtocol_isWhole) (pc_Protocol_isWhole) (pc_Protocol_isWhole 1) (i_Protocol_isWhole_1) = true := by decide +kernel
theorem fit_Protocol_isWhole_2 : sm_fit (lt_R kProtocol_isWhole) (lt_n kProtocol_isWhole) (lt_fl kProtocol_isWhole).1 (lt_fl kProtocol_isWhole).2 (lt_r kProtocol_isWhole) (lt_b kProtocol_isWhole) (pc_Protocol_isWhole) (pc_Protocol_isWhole 2) (i_Protocol_isWhole_2) = true := by decide +kernel
theorem fit_Protocol_isWhole_3 : sm_fit (lt_R kProtocol_isWhole) (lt_n kProtocol_isWhole) (lt_fl kProtocol_isWhole).1 (lt_fl kProtocol_isWhole).2 (lt_r kProtocol_isWhole) (lt_b kProtocol_isWhole) (pc_Protocol_isWhole) (pc_Protocol_isWhole 3) (i_Protocol_isWhole_3) = true := by decide +kernel
theorem fit_Protocol_isWhole_4 : sm_fit (lt_R kProtocol_isWhole) (lt_n kProtocol_isWhole) (lt_fl kProtocol_isWhole).1 (lt_fl kProtocol_isWhole).2 (lt_r kProtocol_isWhole) (lt_b kProtocol_isWhole) (pc_Protocol_isWhole) (pc_Protocol_isWhole 4) (i_Protocol_isWhole_4) = true := by decide +kernel
theorem fit_Protocol_isWhole_5 : sm_fit (lt_R kProtocol_isWhole) (lt_n kProtocol_isWhole) (lt_fl kProtocol_isWhole).1 (lt_fl kProtocol_isWhole).2 (lt_r kProtocol_isWhole) (lt_b kProtocol_isWhole) (pc_Protocol_isWhole) (pc_Protocol_isWhole 5) (i_Protocol_isWhole_5) = true := by decide +kernel
theorem fit_Protocol_isWhole_6 : sm_fit (lt_R kProtocol_isWhole) (lt_n kProtocol_isWhole) (lt_fl kProtocol_isWhole).1 (lt_fl kProtocol_isWhole).2 (lt_r kProtocol_isWhole) (lt_b kProtocol_isWhole) (pc_Protocol_isWhole) (pc_Protocol_isWhole 6) (i_Protocol_isWhole_6) = true := by decide +kernel
theorem fit_Protocol_isWhole_7 : sm_fit (lt_R kProtocol_isWhole) (lt_n kProtocol_isWhole) (lt_fl kProtocol_isWhole).1 (lt_fl kProtocol_isWhole).2 (lt_r kProtocol_isWhole) (lt_b kProtocol_isWhole) (pc_Protocol_isWhole) (pc_Protocol_isWhole 7) (i_Protocol_isWhole_7) = true := by decide +kernel
theorem fit_Protocol_isWhole_8 : sm_fit (lt_R kProtocol_isWhole) (lt_n kProtocol_isWhole) (lt_fl kProtocol_isWhole).1 (lt_fl kProtocol_isWhole).2 (lt_r kProtocol_isWhole) (lt_b kProtocol_isWhole) (pc_Protocol_isWhole) (pc_Protocol_isWhole 8) (i_Protocol_isWhole_8) = true := by decide +kernel
theorem fit_Protocol_isWhole_9 : sm_fit (lt_R kProtocol_isWhole) (lt_n kProtocol_isWhole) (lt_fl kProtocol_isWhole).1 (lt_fl kProtocol_isWhole).2 (lt_r kProtocol_isWhole) (lt_b kProtocol_isWhole) (pc_Protocol_isWhole) (pc_Protocol_isWhole 9) (i_Protocol_isWhole_9) = true := by decide +kernel
theorem fit_Protocol_whatAt_0 : sm_fit (lt_R kProtocol_whatAt) (lt_n kProtocol_whatAt) (lt_fl kProtocol_whatAt).1 (lt_fl kProtocol_whatAt).2 (lt_r kProtocol_whatAt) (lt_b kProtocol_whatAt) (pc_Protocol_whatAt) (pc_Protocol_whatAt 0) (i_Protocol_whatAt_0) = true := by decide +kernel
theorem fit_Protocol_whatAt_1 : sm_fit (lt_R kProtocol_whatAt) (lt_n kProtocol_whatAt) (lt_fl kProtocol_whatAt).1 (lt_fl kProtocol_whatAt).2 (lt_r kProtocol_whatAt) (lt_b kProtocol_whatAt) (pc_Protocol_whatAt) (pc_Protocol_whatAt 1) (i_Protocol_whatAt_1) = true := by decide +kernel
theorem fit_Protocol_whatAt_2 : sm_fit (lt_R kProtocol_whatAt) (lt_n kProtocol_whatAt) (lt_fl kProtocol_whatAt).1 (lt_fl kProtocol_whatAt).2 (lt_r kProtocol_whatAt) (lt_b kProtocol_whatAt) (pc_Protocol_whatAt) (pc_Protocol_whatAt 2) (i_Protocol_whatAt_2) = true := by decide +kernel
theorem fit_Protocol_whatAt_3 : sm_fit (lt_R kProtocol_whatAt) (lt_n kProtocol_whatAt) (lt_fl kProtocol_whatAt).1 (lt_fl kProtocol_whatAt).2 (lt_r kProtocol_whatAt) (lt_b kProtocol_whatAt) (pc_Protocol_whatAt) (pc_Protocol_whatAt 3) (i_Protocol_whatAt_3) = true := by decide +kernel
theorem fit_Protocol_kindAt_0 : sm_fit (lt_R kProtocol_kindAt) (lt_n kProtocol_kindAt) (lt_fl kProtocol_kindAt).1 (lt_fl kProtocol_kindAt).2 (lt_r kProtocol_kindAt) (lt_b kProtocol_kindAt) (pc_Protocol_kindAt) (pc_Protocol_kindAt 0) (i_Protocol_kindAt_0) = true := by decide +kernel
theorem fit_Protocol_kindAt_1 : sm_fit (lt_R kProtocol_kindAt) (lt_n kProtocol_kindAt) (lt_fl kProtocol_kindAt).1 (lt_fl kProtocol_kindAt).2 (lt_r kProtocol_kindAt) (lt_b kProtocol_kindAt) (pc_Protocol_kindAt) (pc_Protocol_kindAt 1) (i_Protocol_kindAt_1) = true := by decide +kernel
theorem fit_Protocol_kindAt_2 : sm_fit (lt_R kProtocol_kindAt) (lt_n kProtocol_kindAt) (lt_fl kProtocol_kindAt).1 (lt_fl kProtocol_kindAt).2 (lt_r kProtocol_kindAt) (lt_b kProtocol_kindAt) (pc_Protocol_kindAt) (pc_Protocol_kindAt 2) (i_Protocol_kindAt_2) = true := by decide +kernel
theorem fit_Protocol_kindAt_3 : sm_fit (lt_R kProtocol_kindAt) (lt_n kProtocol_kindAt) (lt_fl kProtocol_kindAt).1 (lt_fl kProtocol_kindAt).2 (lt_r kProtocol_kindAt) (lt_b kProtocol_kindAt) (pc_Protocol_kindAt) (pc_Protocol_kindAt 3) (i_Protocol_kindAt_3) = true := by decide +kernel
theorem fit_Protocol_nextAt_0 : sm_fit (lt_R kProtocol_nextAt) (lt_n kProtocol_nextAt) (lt_fl kProtocol_nextAt).1 (lt_fl kProtocol_nextAt).2 (lt_r kProtocol_nextAt) (lt_b kProtocol_nextAt) (pc_Protocol_nextAt) (pc_Protocol_nextAt 0) (i_Protocol_nextAt_0) = true := by decide +kernel
theorem fit_Protocol_nextAt_1 : sm_fit (lt_R kProtocol_nextAt) (lt_n kProtocol_nextAt) (lt_fl kProtocol_nextAt).1 (lt_fl kProtocol_nextAt).2 (lt_r kProtocol_nextAt) (lt_b kProtocol_nextAt) (pc_Protocol_nextAt) (pc_Protocol_nextAt 1) (i_Protocol_nextAt_1) = true := by decide +kernel
theorem fit_Protocol_nextAt_2 : sm_fit (lt_R kProtocol_nextAt) (lt_n kProtocol_nextAt) (lt_fl kProtocol_nextAt).1 (lt_fl kProtocol_nextAt).2 (lt_r kProtocol_nextAt) (lt_b kProtocol_nextAt) (pc_Protocol_nextAt) (pc_Protocol_nextAt 2) (i_Protocol_nextAt_2) = true := by decide +kernel
theorem fit_Protocol_nextAt_3 : sm_fit (lt_R kProtocol_nextAt) (lt_n kProtocol_nextAt) (lt_fl kProtocol_nextAt).1 (lt_fl kProtocol_nextAt).2 (lt_r kProtocol_nextAt) (lt_b kProtocol_nextAt) (pc_Protocol_nextAt) (pc_Protocol_nextAt 3) (i_Protocol_nextAt_3) = true := by decide +kernel
theorem fit_Protocol_nextAt_4 : sm_fit (lt_R kProtocol_nextAt) (lt_n kProtocol_nextAt) (lt_fl kProtocol_nextAt).1 (lt_fl kProtocol_nextAt).2 (lt_r kProtocol_nextAt) (lt_b kProtocol_nextAt) (pc_Protocol_nextAt) (pc_Protocol_nextAt 4) (i_Protocol_nextAt_4) = true := by decide +kernel
theorem fit_Protocol_nextAt_5 : sm_fit (lt_R kProtocol_nextAt) (lt_n kProtocol_nextAt) (lt_fl kProtocol_nextAt).1 (lt_fl kProtocol_nextAt).2 (lt_r kProtocol_nextAt) (lt_b kProtocol_nextAt) (pc_Protocol_nextAt) (pc_Protocol_nextAt 5) (i_Protocol_nextAt_5) = true := by decide +kernel
theorem fit_Protocol_nextAt_6 : sm_fit (lt_R kProtocol_nextAt) (lt_n kProtocol_nextAt) (lt_fl kProtocol_nextAt).1 (lt_fl kProtocol_nextAt).2 (lt_r kProtocol_nextAt) (lt_b kProtocol_nextAt) (pc_Protocol_nextAt) (pc_Protocol_nextAt 6) (i_Protocol_nextAt_6) = true := by decide +kernel
theorem fit_Protocol_nextAt_7 : sm_fit (lt_R kProtocol_nextAt) (lt_n kProtocol_nextAt) (lt_fl kProtocol_nextAt).1 (lt_fl kProtocol_nextAt).2 (lt_r kProtocol_nextAt) (lt_b kProtocol_nextAt) (pc_Protocol_nextAt) (pc_Protocol_nextAt 7) (i_Protocol_nextAt_7) = true := by decide +kernel
theorem fit_Protocol_nextAt_8 : sm_fit (lt_R kProtocol_nextAt) (lt_n kProtocol_nextAt) (lt_fl kProtocol_nextAt).1 (lt_fl kProtocol_nextAt).2 (lt_r kProtocol_nextAt) (lt_b kProtocol_nextAt) (pc_Protocol_nextAt) (pc_Protocol_nextAt 8) (i_Protocol_nextAt_8) = true := by decide +kernel
theorem fit_Protocol_nextAt_9 : sm_fit (lt_R kProtocol_nextAt) (lt_n kProtocol_nextAt) (lt_fl kProtocol_nextAt).1 (lt_fl kProtocol_nextAt).2 (lt_r kProtocol_nextAt) (lt_b kProtocol_nextAt) (pc_Protocol_nextAt) (pc_Protocol_nextAt 9) (i_Protocol_nextAt_9) = true := by decide +kernel
theorem fit_Protocol_nextAt_10 : sm_fit (lt_R kProtocol_nextAt) (lt_n kProtocol_nextAt) (lt_fl kProtocol_nextAt).1 (lt_fl kProtocol_nextAt).2 (lt_r kProtocol_nextAt) (lt_b kProtocol_nextAt) (pc_Protocol_nextAt) (pc_Protocol_nextAt 10) (i_Protocol_nextAt_10) = true := by decide +kernel
theorem fit_Protocol_nextAt_11 : sm_fit (lt_R kProtocol_nextAt) (lt_n kProtocol_nextAt) (lt_fl kProtocol_nextAt).1 (lt_fl kProtocol_nextAt).2 (lt_r kProtocol_nextAt) (lt_b kProtocol_nextAt) (pc_Protocol_nextAt) (pc_Protocol_nextAt 11) (i_Protocol_nextAt_11) = true := by decide +kernel
theorem fit_Top_step_0 : sm_fit (lt_R kTop_step) (lt_n kTop_step) (lt_fl kTop_step).1 (lt_fl kTop_step).2 (lt_r kTop_step) (lt_b kTop_step) (pc_Top_step) (pc_Top_step 0) (i_Top_step_0) = true := by decide +kernel
theorem fit_Top_step_1 : sm_fit (lt_R kTop_step) (lt_n kTop_step) (lt_fl kTop_step).1 (lt_fl kTop_step).2 (lt_r kTop_step) (lt_b kTop_step) (pc_Top_step) (pc_Top_step 1) (i_Top_step_1) = true := by decide +kernel
theorem fit_Top_step_2 : sm_fit (lt_R kTop_step) (lt_n kTop_step) (lt_fl kTop_step).1 (lt_fl kTop_step).2 (lt_r kTop_step) (lt_b kTop_step) (pc_Top_step) (pc_Top_step 2) (i_Top_step_2) = true := by decide +kernel
theorem fit_Top_step_3 : sm_fit (lt_R kTop_step) (lt_n kTop_step) (lt_fl kTop_step).1 (lt_fl kTop_step).2 (lt_r kTop_step) (lt_b kTop_step) (pc_Top_step) (pc_Top_step 3) (i_Top_step_3) = true := by decide +kernel
theorem fit_Top_step_4 : sm_fit (lt_R kTop_step) (lt_n kTop_step) (lt_fl kTop_step).1 (lt_fl kTop_step).2 (lt_r kTop_step) (lt_b kTop_step) (pc_Top_step) (pc_Top_step 4) (i_Top_step_4) = true := by decide +kernel
theorem fit_Top_step_5 : sm_fit (lt_R kTop_step) (lt_n kTop_step) (lt_fl kTop_step).1 (lt_fl kTop_step).2 (lt_r kTop_step) (lt_b kTop_step) (pc_Top_step) (pc_Top_step 5) (i_Top_step_5) = true := by decide +kernel
theorem fit_Top_step_6 : sm_fit (lt_R kTop_step) (lt_n kTop_step) (lt_fl kTop_step).1 (lt_fl kTop_step).2 (lt_r kTop_step) (lt_b kTop_step) (pc_Top_step) (pc_Top_step 6) (i_Top_step_6) = true := by decide +kernel
theorem fit_Top_step_7 : sm_fit (lt_R kTop_step) (lt_n kTop_step) (lt_fl kTop_step).1 (lt_fl kTop_step).2 (lt_r kTop_step) (lt_b kTop_step) (pc_Top_step) (pc_Top_step 7) (i_Top_step_7) = true := by decide +kernel
theorem fit_Top_channel_0 : sm_fit (lt_R kTop_channel) (lt_n kTop_channel) (lt_fl kTop_channel).1 (lt_fl kTop_channel).2 (lt_r kTop_channel) (lt_b kTop_channel) (pc_Top_channel) (pc_Top_channel 0) (i_Top_channel_0) = true := by decide +kernel
theorem fit_Top_channel_1 : sm_fit (lt_R kTop_channel) (lt_n kTop_channel) (lt_fl kTop_channel).1 (lt_fl kTop_channel).2 (lt_r kTop_channel) (lt_b kTop_channel) (pc_Top_channel) (pc_Top_channel 1) (i_Top_channel_1) = true := by decide +kernel
theorem fit_Top_channel_2 : sm_fit (lt_R kTop_channel) (lt_n kTop_channel) (lt_fl kTop_channel).1 (lt_fl kTop_channel).2 (lt_r kTop_channel) (lt_b kTop_channel) (pc_Top_channel) (pc_Top_channel 2) (i_Top_channel_2) = true := by decide +kernel
theorem fit_Top_channel_3 : sm_fit (lt_R kTop_channel) (lt_n kTop_channel) (lt_fl kTop_channel).1 (lt_fl kTop_channel).2 (lt_r kTop_channel) (lt_b kTop_channel) (pc_Top_channel) (pc_Top_channel 3) (i_Top_channel_3) = true := by decide +kernel
theorem fit_Top_channel_4 : sm_fit (lt_R kTop_channel) (lt_n kTop_channel) (lt_fl kTop_channel).1 (lt_fl kTop_channel).2 (lt_r kTop_channel) (lt_b kTop_channel) (pc_Top_channel) (pc_Top_channel 4) (i_Top_channel_4) = true := by decide +kernel
theorem fit_Top_channel_5 : sm_fit (lt_R kTop_channel) (lt_n kTop_channel) (lt_fl kTop_channel).1 (lt_fl kTop_channel).2 (lt_r kTop_channel) (lt_b kTop_channel) (pc_Top_channel) (pc_Top_channel 5) (i_Top_channel_5) = true := by decide +kernel
theorem fit_Top_channel_6 : sm_fit (lt_R kTop_channel) (lt_n kTop_channel) (lt_fl kTop_channel).1 (lt_fl kTop_channel).2 (lt_r kTop_channel) (lt_b kTop_channel) (pc_Top_channel) (pc_Top_channel 6) (i_Top_channel_6) = true := by decide +kernel
theorem fit_Top_channel_7 : sm_fit (lt_R kTop_channel) (lt_n kTop_channel) (lt_fl kTop_channel).1 (lt_fl kTop_channel).2 (lt_r kTop_channel) (lt_b kTop_channel) (pc_Top_channel) (pc_Top_channel 7) (i_Top_channel_7) = true := by decide +kernel
theorem fit_Top_channel_8 : sm_fit (lt_R kTop_channel) (lt_n kTop_channel) (lt_fl kTop_channel).1 (lt_fl kTop_channel).2 (lt_r kTop_channel) (lt_b kTop_channel) (pc_Top_channel) (pc_Top_channel 8) (i_Top_channel_8) = true := by decide +kernel
theorem fit_Top_channel_9 : sm_fit (lt_R kTop_channel) (lt_n kTop_channel) (lt_fl kTop_channel).1 (lt_fl kTop_channel).2 (lt_r kTop_channel) (lt_b kTop_channel) (pc_Top_channel) (pc_Top_channel 9) (i_Top_channel_9) = true := by decide +kernel
theorem fit_Top_op_0 : sm_fit (lt_R kTop_op) (lt_n kTop_op) (lt_fl kTop_op).1 (lt_fl kTop_op).2 (lt_r kTop_op) (lt_b kTop_op) (pc_Top_op) (pc_Top_op 0) (i_Top_op_0) = true := by decide +kernel
theorem fit_Top_op_1 : sm_fit (lt_R kTop_op) (lt_n kTop_op) (lt_fl kTop_op).1 (lt_fl kTop_op).2 (lt_r kTop_op) (lt_b kTop_op) (pc_Top_op) (pc_Top_op 1) (i_Top_op_1) = true := by decide +kernel
theorem fit_Top_op_2 : sm_fit (lt_R kTop_op) (lt_n kTop_op) (lt_fl kTop_op).1 (lt_fl kTop_op).2 (lt_r kTop_op) (lt_b kTop_op) (pc_Top_op) (pc_Top_op 2) (i_Top_op_2) = true := by decide +kernel
theorem fit_Top_op_3 : sm_fit (lt_R kTop_op) (lt_n kTop_op) (lt_fl kTop_op).1 (lt_fl kTop_op).2 (lt_r kTop_op) (lt_b kTop_op) (pc_Top_op) (pc_Top_op 3) (i_Top_op_3) = true := by decide +kernel
theorem fit_Top_op_4 : sm_fit (lt_R kTop_op) (lt_n kTop_op) (lt_fl kTop_op).1 (lt_fl kTop_op).2 (lt_r kTop_op) (lt_b kTop_op) (pc_Top_op) (pc_Top_op 4) (i_Top_op_4) = true := by decide +kernel
theorem fit_Top_op_5 : sm_fit (lt_R kTop_op) (lt_n kTop_op) (lt_fl kTop_op).1 (lt_fl kTop_op).2 (lt_r kTop_op) (lt_b kTop_op) (pc_Top_op) (pc_Top_op 5) (i_Top_op_5) = true := by decide +kernel
theorem fit_Top_op_6 : sm_fit (lt_R kTop_op) (lt_n kTop_op) (lt_fl kTop_op).1 (lt_fl kTop_op).2 (lt_r kTop_op) (lt_b kTop_op) (pc_Top_op) (pc_Top_op 6) (i_Top_op_6) = true := by decide +kernel
theorem fit_Top_unop_0 : sm_fit (lt_R kTop_unop) (lt_n kTop_unop) (lt_fl kTop_unop).1 (lt_fl kTop_unop).2 (lt_r kTop_unop) (lt_b kTop_unop) (pc_Top_unop) (pc_Top_unop 0) (i_Top_unop_0) = true := by decide +kernel
theorem fit_Top_unop_1 : sm_fit (lt_R kTop_unop) (lt_n kTop_unop) (lt_fl kTop_unop).1 (lt_fl kTop_unop).2 (lt_r kTop_unop) (lt_b kTop_unop) (pc_Top_unop) (pc_Top_unop 1) (i_Top_unop_1) = true := by decide +kernel
theorem fit_Top_unop_2 : sm_fit (lt_R kTop_unop) (lt_n kTop_unop) (lt_fl kTop_unop).1 (lt_fl kTop_unop).2 (lt_r kTop_unop) (lt_b kTop_unop) (pc_Top_unop) (pc_Top_unop 2) (i_Top_unop_2) = true := by decide +kernel
theorem fit_Top_unop_3 : sm_fit (lt_R kTop_unop) (lt_n kTop_unop) (lt_fl kTop_unop).1 (lt_fl kTop_unop).2 (lt_r kTop_unop) (lt_b kTop_unop) (pc_Top_unop) (pc_Top_unop 3) (i_Top_unop_3) = true := by decide +kernel
theorem fit_Top_unop_4 : sm_fit (lt_R kTop_unop) (lt_n kTop_unop) (lt_fl kTop_unop).1 (lt_fl kTop_unop).2 (lt_r kTop_unop) (lt_b kTop_unop) (pc_Top_unop) (pc_Top_unop 4) (i_Top_unop_4) = true := by decide +kernel
theorem fit_Top_check_0 : sm_fit (lt_R kTop_check) (lt_n kTop_check) (lt_fl kTop_check).1 (lt_fl kTop_check).2 (lt_r kTop_check) (lt_b kTop_check) (pc_Top_check) (pc_Top_check 0) (i_Top_check_0) = true := by decide +kernel
theorem fit_Top_check_1 : sm_fit (lt_R kTop_check) (lt_n kTop_check) (lt_fl kTop_check).1 (lt_fl kTop_check).2 (lt_r kTop_check) (lt_b kTop_check) (pc_Top_check) (pc_Top_check 1) (i_Top_check_1) = true := by decide +kernel
theorem fit_Top_check_2 : sm_fit (lt_R kTop_check) (lt_n kTop_check) (lt_fl kTop_check).1 (lt_fl kTop_check).2 (lt_r kTop_check) (lt_b kTop_check) (pc_Top_check) (pc_Top_check 2) (i_Top_check_2) = true := by decide +kernel
theorem fit_Top_error_0 : sm_fit (lt_R kTop_error) (lt_n kTop_error) (lt_fl kTop_error).1 (lt_fl kTop_error).2 (lt_r kTop_error) (lt_b kTop_error) (pc_Top_error) (pc_Top_error 0) (i_Top_error_0) = true := by decide +kernel
theorem fit_Top_error_1 : sm_fit (lt_R kTop_error) (lt_n kTop_error) (lt_fl kTop_error).1 (lt_fl kTop_error).2 (lt_r kTop_error) (lt_b kTop_error) (pc_Top_error) (pc_Top_error 1) (i_Top_error_1) = true := by decide +kernel
theorem fit_Top_error_2 : sm_fit (lt_R kTop_error) (lt_n kTop_error) (lt_fl kTop_error).1 (lt_fl kTop_error).2 (lt_r kTop_error) (lt_b kTop_error) (pc_Top_error) (pc_Top_error 2) (i_Top_error_2) = true := by decide +kernel
theorem fit_Top_borrower_0 : sm_fit (lt_R kTop_borrower) (lt_n kTop_borrower) (lt_fl kTop_borrower).1 (lt_fl kTop_borrower).2 (lt_r kTop_borrower) (lt_b kTop_borrower) (pc_Top_borrower) (pc_Top_borrower 0) (i_Top_borrower_0) = true := by decide +kernel
theorem fit_Top_borrower_1 : sm_fit (lt_R kTop_borrower) (lt_n kTop_borrower) (lt_fl kTop_borrower).1 (lt_fl kTop_borrower).2 (lt_r kTop_borrower) (lt_b kTop_borrower) (pc_Top_borrower) (pc_Top_borrower 1) (i_Top_borrower_1) = true := by decide +kernel
theorem fit_Top_borrower_2 : sm_fit (lt_R kTop_borrower) (lt_n kTop_borrower) (lt_fl kTop_borrower).1 (lt_fl kTop_borrower).2 (lt_r kTop_borrower) (lt_b kTop_borrower) (pc_Top_borrower) (pc_Top_borrower 2) (i_Top_borrower_2) = true := by decide +kernel
theorem fit_Top_borrower_3 : sm_fit (lt_R kTop_borrower) (lt_n kTop_borrower) (lt_fl kTop_borrower).1 (lt_fl kTop_borrower).2 (lt_r kTop_borrower) (lt_b kTop_borrower) (pc_Top_borrower) (pc_Top_borrower 3) (i_Top_borrower_3) = true := by decide +kernel
theorem fit_Top_borrower_4 : sm_fit (lt_R kTop_borrower) (lt_n kTop_borrower) (lt_fl kTop_borrower).1 (lt_fl kTop_borrower).2 (lt_r kTop_borrower) (lt_b kTop_borrower) (pc_Top_borrower) (pc_Top_borrower 4) (i_Top_borrower_4) = true := by decide +kernel
theorem fit_Top_holds_0 : sm_fit (lt_R kTop_holds) (lt_n kTop_holds) (lt_fl kTop_holds).1 (lt_fl kTop_holds).2 (lt_r kTop_holds) (lt_b kTop_holds) (pc_Top_holds) (pc_Top_holds 0) (i_Top_holds_0) = true := by decide +kernel
theorem fit_Top_holds_1 : sm_fit (lt_R kTop_holds) (lt_n kTop_holds) (lt_fl kTop_holds).1 (lt_fl kTop_holds).2 (lt_r kTop_holds) (lt_b kTop_holds) (pc_Top_holds) (pc_Top_holds 1) (i_Top_holds_1) = true := by decide +kernel
theorem fit_Top_holds_2 : sm_fit (lt_R kTop_holds) (lt_n kTop_holds) (lt_fl kTop_holds).1 (lt_fl kTop_holds).2 (lt_r kTop_holds) (lt_b kTop_holds) (pc_Top_holds) (pc_Top_holds 2) (i_Top_holds_2) = true := by decide +kernel
theorem fit_Top_holds_3 : sm_fit (lt_R kTop_holds) (lt_n kTop_holds) (lt_fl kTop_holds).1 (lt_fl kTop_holds).2 (lt_r kTop_holds) (lt_b kTop_holds) (pc_Top_holds) (pc_Top_holds 3) (i_Top_holds_3) = true := by decide +kernel
theorem fit_Top_holds_4 : sm_fit (lt_R kTop_holds) (lt_n kTop_holds) (lt_fl kTop_holds).1 (lt_fl kTop_holds).2 (lt_r kTop_holds) (lt_b kTop_holds) (pc_Top_holds) (pc_Top_holds 4) (i_Top_holds_4) = true := by decide +kernel
theorem fit_Top_holds_5 : sm_fit (lt_R kTop_holds) (lt_n kTop_holds) (lt_fl kTop_holds).1 (lt_fl kTop_holds).2 (lt_r kTop_holds) (lt_b kTop_holds) (pc_Top_holds) (pc_Top_holds 5) (i_Top_holds_5) = true := by decide +kernel
theorem fit_Top_holds_6 : sm_fit (lt_R kTop_holds) (lt_n kTop_holds) (lt_fl kTop_holds).1 (lt_fl kTop_holds).2 (lt_r kTop_holds) (lt_b kTop_holds) (pc_Top_holds) (pc_Top_holds 6) (i_Top_holds_6) = true := by decide +kernel
theorem fit_Top_at_0 : sm_fit (lt_R kTop_at) (lt_n kTop_at) (lt_fl kTop_at).1 (lt_fl kTop_at).2 (lt_r kTop_at) (lt_b kTop_at) (pc_Top_at) (pc_Top_at 0) (i_Top_at_0) = true := by decide +kernel
theorem fit_Top_at_1 : sm_fit (lt_R kTop_at) (lt_n kTop_at) (lt_fl kTop_at).1 (lt_fl kTop_at).2 (lt_r kTop_at) (lt_b kTop_at) (pc_Top_at) (pc_Top_at 1) (i_Top_at_1) = true := by decide +kernel
theorem fit_Top_at_2 : sm_fit (lt_R kTop_at) (lt_n kTop_at) (lt_fl kTop_at).1 (lt_fl kTop_at).2 (lt_r kTop_at) (lt_b kTop_at) (pc_Top_at) (pc_Top_at 2) (i_Top_at_2) = true := by decide +kernel
theorem fit_Top_at_3 : sm_fit (lt_R kTop_at) (lt_n kTop_at) (lt_fl kTop_at).1 (lt_fl kTop_at).2 (lt_r kTop_at) (lt_b kTop_at) (pc_Top_at) (pc_Top_at 3) (i_Top_at_3) = true := by decide +kernel
theorem fit_Top_at_4 : sm_fit (lt_R kTop_at) (lt_n kTop_at) (lt_fl kTop_at).1 (lt_fl kTop_at).2 (lt_r kTop_at) (lt_b kTop_at) (pc_Top_at) (pc_Top_at 4) (i_Top_at_4) = true := by decide +kernel
theorem fit_Top_at_5 : sm_fit (lt_R kTop_at) (lt_n kTop_at) (lt_fl kTop_at).1 (lt_fl kTop_at).2 (lt_r kTop_at) (lt_b kTop_at) (pc_Top_at) (pc_Top_at 5) (i_Top_at_5) = true := by decide +kernel
theorem fit_Top_at_6 : sm_fit (lt_R kTop_at) (lt_n kTop_at) (lt_fl kTop_at).1 (lt_fl kTop_at).2 (lt_r kTop_at) (lt_b kTop_at) (pc_Top_at) (pc_Top_at 6) (i_Top_at_6) = true := by decide +kernel
theorem fit_Top_lives_0 : sm_fit (lt_R kTop_lives) (lt_n kTop_lives) (lt_fl kTop_lives).1 (lt_fl kTop_lives).2 (lt_r kTop_lives) (lt_b kTop_lives) (pc_Top_lives) (pc_Top_lives 0) (i_Top_lives_0) = true := by decide +kernel
theorem fit_Top_lives_1 : sm_fit (lt_R kTop_lives) (lt_n kTop_lives) (lt_fl kTop_lives).1 (lt_fl kTop_lives).2 (lt_r kTop_lives) (lt_b kTop_lives) (pc_Top_lives) (pc_Top_lives 1) (i_Top_lives_1) = true := by decide +kernel
theorem fit_Top_lives_2 : sm_fit (lt_R kTop_lives) (lt_n kTop_lives) (lt_fl kTop_lives).1 (lt_fl kTop_lives).2 (lt_r kTop_lives) (lt_b kTop_lives) (pc_Top_lives) (pc_Top_lives 2) (i_Top_lives_2) = true := by decide +kernel
theorem fit_Top_stuck_0 : sm_fit (lt_R kTop_stuck) (lt_n kTop_stuck) (lt_fl kTop_stuck).1 (lt_fl kTop_stuck).2 (lt_r kTop_stuck) (lt_b kTop_stuck) (pc_Top_stuck) (pc_Top_stuck 0) (i_Top_stuck_0) = true := by decide +kernel
theorem fit_Top_stuck_1 : sm_fit (lt_R kTop_stuck) (lt_n kTop_stuck) (lt_fl kTop_stuck).1 (lt_fl kTop_stuck).2 (lt_r kTop_stuck) (lt_b kTop_stuck) (pc_Top_stuck) (pc_Top_stuck 1) (i_Top_stuck_1) = true := by decide +kernel
theorem fit_Top_stuck_2 : sm_fit (lt_R kTop_stuck) (lt_n kTop_stuck) (lt_fl kTop_stuck).1 (lt_fl kTop_stuck).2 (lt_r kTop_stuck) (lt_b kTop_stuck) (pc_Top_stuck) (pc_Top_stuck 2) (i_Top_stuck_2) = true := by decide +kernel
theorem fit_Top_stuck_3 : sm_fit (lt_R kTop_stuck) (lt_n kTop_stuck) (lt_fl kTop_stuck).1 (lt_fl kTop_stuck).2 (lt_r kTop_stuck) (lt_b kTop_stuck) (pc_Top_stuck) (pc_Top_stuck 3) (i_Top_stuck_3) = true := by decide +kernel
theorem fit_Top_stuck_4 : sm_fit (lt_R kTop_stuck) (lt_n kTop_stuck) (lt_fl kTop_stuck).1 (lt_fl kTop_stuck).2 (lt_r kTop_stuck) (lt_b kTop_stuck) (pc_Top_stuck) (pc_Top_stuck 4) (i_Top_stuck_4) = true := by decide +kernel
theorem fit_Top_stuck_5 : sm_fit (lt_R kTop_stuck) (lt_n kTop_stuck) (lt_fl kTop_stuck).1 (lt_fl kTop_stuck).2 (lt_r kTop_stuck) (lt_b kTop_stuck) (pc_Top_stuck) (pc_Top_stuck 5) (i_Top_stuck_5) = true := by decide +kernel
theorem fit_Top_begin_0 : sm_fit (lt_R kTop_begin) (lt_n kTop_begin) (lt_fl kTop_begin).1 (lt_fl kTop_begin).2 (lt_r kTop_begin) (lt_b kTop_begin) (pc_Top_begin) (pc_Top_begin 0) (i_Top_begin_0) = true := by decide +kernel
theorem fit_Top_go_0 : sm_fit (lt_R kTop_go) (lt_n kTop_go) (lt_fl kTop_go).1 (lt_fl kTop_go).2 (lt_r kTop_go) (lt_b kTop_go) (pc_Top_go) (pc_Top_go 0) (i_Top_go_0) = true := by decide +kernel
theorem fit_Top_go_1 : sm_fit (lt_R kTop_go) (lt_n kTop_go) (lt_fl kTop_go).1 (lt_fl kTop_go).2 (lt_r kTop_go) (lt_b kTop_go) (pc_Top_go) (pc_Top_go 1) (i_Top_go_1) = true := by decide +kernel
theorem fit_Top_go_2 : sm_fit (lt_R kTop_go) (lt_n kTop_go) (lt_fl kTop_go).1 (lt_fl kTop_go).2 (lt_r kTop_go) (lt_b kTop_go) (pc_Top_go) (pc_Top_go 2) (i_Top_go_2) = true := by decide +kernel
theorem fit_Top_go_3 : sm_fit (lt_R kTop_go) (lt_n kTop_go) (lt_fl kTop_go).1 (lt_fl kTop_go).2 (lt_r kTop_go) (lt_b kTop_go) (pc_Top_go) (pc_Top_go 3) (i_Top_go_3) = true := by decide +kernel
theorem fit_Top_go_4 : sm_fit (lt_R kTop_go) (lt_n kTop_go) (lt_fl kTop_go).1 (lt_fl kTop_go).2 (lt_r kTop_go) (lt_b kTop_go) (pc_Top_go) (pc_Top_go 4) (i_Top_go_4) = true := by decide +kernel
theorem fit_Top_go_5 : sm_fit (lt_R kTop_go) (lt_n kTop_go) (lt_fl kTop_go).1 (lt_fl kTop_go).2 (lt_r kTop_go) (lt_b kTop_go) (pc_Top_go) (pc_Top_go 5) (i_Top_go_5) = true := by decide +kernel
theorem fit_Top_run_0 : sm_fit (lt_R kTop_run) (lt_n kTop_run) (lt_fl kTop_run).1 (lt_fl kTop_run).2 (lt_r kTop_run) (lt_b kTop_run) (pc_Top_run) (pc_Top_run 0) (i_Top_run_0) = true := by decide +kernel
theorem fit_Top_run_1 : sm_fit (lt_R kTop_run) (lt_n kTop_run) (lt_fl kTop_run).1 (lt_fl kTop_run).2 (lt_r kTop_run) (lt_b kTop_run) (pc_Top_run) (pc_Top_run 1) (i_Top_run_1) = true := by decide +kernel
theorem fit_Top_run_2 : sm_fit (lt_R kTop_run) (lt_n kTop_run) (lt_fl kTop_run).1 (lt_fl kTop_run).2 (lt_r kTop_run) (lt_b kTop_run) (pc_Top_run) (pc_Top_run 2) (i_Top_run_2) = true := by decide +kernel
theorem fit_Top_run_3 : sm_fit (lt_R kTop_run) (lt_n kTop_run) (lt_fl kTop_run).1 (lt_fl kTop_run).2 (lt_r kTop_run) (lt_b kTop_run) (pc_Top_run) (pc_Top_run 3) (i_Top_run_3) = true := by decide +kernel
theorem fit_Top_run_4 : sm_fit (lt_R kTop_run) (lt_n kTop_run) (lt_fl kTop_run).1 (lt_fl kTop_run).2 (lt_r kTop_run) (lt_b kTop_run) (pc_Top_run) (pc_Top_run 4) (i_Top_run_4) = true := by decide +kernel
theorem fit_Top_run_5 : sm_fit (lt_R kTop_run) (lt_n kTop_run) (lt_fl kTop_run).1 (lt_fl kTop_run).2 (lt_r kTop_run) (lt_b kTop_run) (pc_Top_run) (pc_Top_run 5) (i_Top_run_5) = true := by decide +kernel
theorem fit_Top_state_0 : sm_fit (lt_R kTop_state) (lt_n kTop_state) (lt_fl kTop_state).1 (lt_fl kTop_state).2 (lt_r kTop_state) (lt_b kTop_state) (pc_Top_state) (pc_Top_state 0) (i_Top_state_0) = true := by decide +kernel
theorem fit_Top_state_1 : sm_fit (lt_R kTop_state) (lt_n kTop_state) (lt_fl kTop_state).1 (lt_fl kTop_state).2 (lt_r kTop_state) (lt_b kTop_state) (pc_Top_state) (pc_Top_state 1) (i_Top_state_1) = true := by decide +kernel
theorem fit_Top_state_2 : sm_fit (lt_R kTop_state) (lt_n kTop_state) (lt_fl kTop_state).1 (lt_fl kTop_state).2 (lt_r kTop_state) (lt_b kTop_state) (pc_Top_state) (pc_Top_state 2) (i_Top_state_2) = true := by decide +kernel
theorem fit_Top_state_3 : sm_fit (lt_R kTop_state) (lt_n kTop_state) (lt_fl kTop_state).1 (lt_fl kTop_state).2 (lt_r kTop_state) (lt_b kTop_state) (pc_Top_state) (pc_Top_state 3) (i_Top_state_3) = true := by decide +kernel
theorem fit_Top_state_4 : sm_fit (lt_R kTop_state) (lt_n kTop_state) (lt_fl kTop_state).1 (lt_fl kTop_state).2 (lt_r kTop_state) (lt_b kTop_state) (pc_Top_state) (pc_Top_state 4) (i_Top_state_4) = true := by decide +kernel
theorem fit_Top_fault_0 : sm_fit (lt_R kTop_fault) (lt_n kTop_fault) (lt_fl kTop_fault).1 (lt_fl kTop_fault).2 (lt_r kTop_fault) (lt_b kTop_fault) (pc_Top_fault) (pc_Top_fault 0) (i_Top_fault_0) = true := by decide +kernel
theorem fit_Top_fault_1 : sm_fit (lt_R kTop_fault) (lt_n kTop_fault) (lt_fl kTop_fault).1 (lt_fl kTop_fault).2 (lt_r kTop_fault) (lt_b kTop_fault) (pc_Top_fault) (pc_Top_fault 1) (i_Top_fault_1) = true := by decide +kernel
theorem fit_Top_fault_2 : sm_fit (lt_R kTop_fault) (lt_n kTop_fault) (lt_fl kTop_fault).1 (lt_fl kTop_fault).2 (lt_r kTop_fault) (lt_b kTop_fault) (pc_Top_fault) (pc_Top_fault 2) (i_Top_fault_2) = true := by decide +kernel
theorem fit_Top_fault_3 : sm_fit (lt_R kTop_fault) (lt_n kTop_fault) (lt_fl kTop_fault).1 (lt_fl kTop_fault).2 (lt_r kTop_fault) (lt_b kTop_fault) (pc_Top_fault) (pc_Top_fault 3) (i_Top_fault_3) = true := by decide +kernel
theorem fit_Top_fault_4 : sm_fit (lt_R kTop_fault) (lt_n kTop_fault) (lt_fl kTop_fault).1 (lt_fl kTop_fault).2 (lt_r kTop_fault) (lt_b kTop_fault) (pc_Top_fault) (pc_Top_fault 4) (i_Top_fault_4) = true := by decide +kernel
theorem fit_Top_place_0 : sm_fit (lt_R kTop_place) (lt_n kTop_place) (lt_fl kTop_place).1 (lt_fl kTop_place).2 (lt_r kTop_place) (lt_b kTop_place) (pc_Top_place) (pc_Top_place 0) (i_Top_place_0) = true := by decide +kernel
theorem fit_Top_place_1 : sm_fit (lt_R kTop_place) (lt_n kTop_place) (lt_fl kTop_place).1 (lt_fl kTop_place).2 (lt_r kTop_place) (lt_b kTop_place) (pc_Top_place) (pc_Top_place 1) (i_Top_place_1) = true := by decide +kernel
theorem fit_Top_place_2 : sm_fit (lt_R kTop_place) (lt_n kTop_place) (lt_fl kTop_place).1 (lt_fl kTop_place).2 (lt_r kTop_place) (lt_b kTop_place) (pc_Top_place) (pc_Top_place 2) (i_Top_place_2) = true := by decide +kernel
theorem fit_Top_place_3 : sm_fit (lt_R kTop_place) (lt_n kTop_place) (lt_fl kTop_place).1 (lt_fl kTop_place).2 (lt_r kTop_place) (lt_b kTop_place) (pc_Top_place) (pc_Top_place 3) (i_Top_place_3) = true := by decide +kernel
theorem fit_Top_place_4 : sm_fit (lt_R kTop_place) (lt_n kTop_place) (lt_fl kTop_place).1 (lt_fl kTop_place).2 (lt_r kTop_place) (lt_b kTop_place) (pc_Top_place) (pc_Top_place 4) (i_Top_place_4) = true := by decide +kernel
theorem fit_Top_value_0 : sm_fit (lt_R kTop_value) (lt_n kTop_value) (lt_fl kTop_value).1 (lt_fl kTop_value).2 (lt_r kTop_value) (lt_b kTop_value) (pc_Top_value) (pc_Top_value 0) (i_Top_value_0) = true := by decide +kernel
theorem fit_Top_value_1 : sm_fit (lt_R kTop_value) (lt_n kTop_value) (lt_fl kTop_value).1 (lt_fl kTop_value).2 (lt_r kTop_value) (lt_b kTop_value) (pc_Top_value) (pc_Top_value 1) (i_Top_value_1) = true := by decide +kernel
theorem fit_Top_value_2 : sm_fit (lt_R kTop_value) (lt_n kTop_value) (lt_fl kTop_value).1 (lt_fl kTop_value).2 (lt_r kTop_value) (lt_b kTop_value) (pc_Top_value) (pc_Top_value 2) (i_Top_value_2) = true := by decide +kernel
theorem fit_Top_value_3 : sm_fit (lt_R kTop_value) (lt_n kTop_value) (lt_fl kTop_value).1 (lt_fl kTop_value).2 (lt_r kTop_value) (lt_b kTop_value) (pc_Top_value) (pc_Top_value 3) (i_Top_value_3) = true := by decide +kernel
theorem fit_Top_value_4 : sm_fit (lt_R kTop_value) (lt_n kTop_value) (lt_fl kTop_value).1 (lt_fl kTop_value).2 (lt_r kTop_value) (lt_b kTop_value) (pc_Top_value) (pc_Top_value 4) (i_Top_value_4) = true := by decide +kernel
theorem fit_Top_value_5 : sm_fit (lt_R kTop_value) (lt_n kTop_value) (lt_fl kTop_value).1 (lt_fl kTop_value).2 (lt_r kTop_value) (lt_b kTop_value) (pc_Top_value) (pc_Top_value 5) (i_Top_value_5) = true := by decide +kernel
theorem fit_Top_waiting_0 : sm_fit (lt_R kTop_waiting) (lt_n kTop_waiting) (lt_fl kTop_waiting).1 (lt_fl kTop_waiting).2 (lt_r kTop_waiting) (lt_b kTop_waiting) (pc_Top_waiting) (pc_Top_waiting 0) (i_Top_waiting_0) = true := by decide +kernel
theorem fit_Top_waiting_1 : sm_fit (lt_R kTop_waiting) (lt_n kTop_waiting) (lt_fl kTop_waiting).1 (lt_fl kTop_waiting).2 (lt_r kTop_waiting) (lt_b kTop_waiting) (pc_Top_waiting) (pc_Top_waiting 1) (i_Top_waiting_1) = true := by decide +kernel
theorem fit_Top_waiting_2 : sm_fit (lt_R kTop_waiting) (lt_n kTop_waiting) (lt_fl kTop_waiting).1 (lt_fl kTop_waiting).2 (lt_r kTop_waiting) (lt_b kTop_waiting) (pc_Top_waiting) (pc_Top_waiting 2) (i_Top_waiting_2) = true := by decide +kernel
theorem fit_Top_waiting_3 : sm_fit (lt_R kTop_waiting) (lt_n kTop_waiting) (lt_fl kTop_waiting).1 (lt_fl kTop_waiting).2 (lt_r kTop_waiting) (lt_b kTop_waiting) (pc_Top_waiting) (pc_Top_waiting 3) (i_Top_waiting_3) = true := by decide +kernel
theorem fit_Top_waiting_4 : sm_fit (lt_R kTop_waiting) (lt_n kTop_waiting) (lt_fl kTop_waiting).1 (lt_fl kTop_waiting).2 (lt_r kTop_waiting) (lt_b kTop_waiting) (pc_Top_waiting) (pc_Top_waiting 4) (i_Top_waiting_4) = true := by decide +kernel
theorem fit_Top_waiting_5 : sm_fit (lt_R kTop_waiting) (lt_n kTop_waiting) (lt_fl kTop_waiting).1 (lt_fl kTop_waiting).2 (lt_r kTop_waiting) (lt_b kTop_waiting) (pc_Top_waiting) (pc_Top_waiting 5) (i_Top_waiting_5) = true := by decide +kernel
theorem fit_Top_made_0 : sm_fit (lt_R kTop_made) (lt_n kTop_made) (lt_fl kTop_made).1 (lt_fl kTop_made).2 (lt_r kTop_made) (lt_b kTop_made) (pc_Top_made) (pc_Top_made 0) (i_Top_made_0) = true := by decide +kernel
theorem fit_Top_drops_0 : sm_fit (lt_R kTop_drops) (lt_n kTop_drops) (lt_fl kTop_drops).1 (lt_fl kTop_drops).2 (lt_r kTop_drops) (lt_b kTop_drops) (pc_Top_drops) (pc_Top_drops 0) (i_Top_drops_0) = true := by decide +kernel
theorem fit_Top_dropped_0 : sm_fit (lt_R kTop_dropped) (lt_n kTop_dropped) (lt_fl kTop_dropped).1 (lt_fl kTop_dropped).2 (lt_r kTop_dropped) (lt_b kTop_dropped) (pc_Top_dropped) (pc_Top_dropped 0) (i_Top_dropped_0) = true := by decide +kernel
theorem fit_Top_dropped_1 : sm_fit (lt_R kTop_dropped) (lt_n kTop_dropped) (lt_fl kTop_dropped).1 (lt_fl kTop_dropped).2 (lt_r kTop_dropped) (lt_b kTop_dropped) (pc_Top_dropped) (pc_Top_dropped 1) (i_Top_dropped_1) = true := by decide +kernel
theorem fit_Top_dropped_2 : sm_fit (lt_R kTop_dropped) (lt_n kTop_dropped) (lt_fl kTop_dropped).1 (lt_fl kTop_dropped).2 (lt_r kTop_dropped) (lt_b kTop_dropped) (pc_Top_dropped) (pc_Top_dropped 2) (i_Top_dropped_2) = true := by decide +kernel
theorem fit_Top_forget_0 : sm_fit (lt_R kTop_forget) (lt_n kTop_forget) (lt_fl kTop_forget).1 (lt_fl kTop_forget).2 (lt_r kTop_forget) (lt_b kTop_forget) (pc_Top_forget) (pc_Top_forget 0) (i_Top_forget_0) = true := by decide +kernel
theorem fit_Top_isAhead_0 : sm_fit (lt_R kTop_isAhead) (lt_n kTop_isAhead) (lt_fl kTop_isAhead).1 (lt_fl kTop_isAhead).2 (lt_r kTop_isAhead) (lt_b kTop_isAhead) (pc_Top_isAhead) (pc_Top_isAhead 0) (i_Top_isAhead_0) = true := by decide +kernel
theorem fit_Top_isAhead_1 : sm_fit (lt_R kTop_isAhead) (lt_n kTop_isAhead) (lt_fl kTop_isAhead).1 (lt_fl kTop_isAhead).2 (lt_r kTop_isAhead) (lt_b kTop_isAhead) (pc_Top_isAhead) (pc_Top_isAhead 1) (i_Top_isAhead_1) = true := by decide +kernel
theorem fit_Top_isAhead_2 : sm_fit (lt_R kTop_isAhead) (lt_n kTop_isAhead) (lt_fl kTop_isAhead).1 (lt_fl kTop_isAhead).2 (lt_r kTop_isAhead) (lt_b kTop_isAhead) (pc_Top_isAhead) (pc_Top_isAhead 2) (i_Top_isAhead_2) = true := by decide +kernel
theorem fit_Top_isAhead_3 : sm_fit (lt_R kTop_isAhead) (lt_n kTop_isAhead) (lt_fl kTop_isAhead).1 (lt_fl kTop_isAhead).2 (lt_r kTop_isAhead) (lt_b kTop_isAhead) (pc_Top_isAhead) (pc_Top_isAhead 3) (i_Top_isAhead_3) = true := by decide +kernel
theorem fit_Top_isAhead_4 : sm_fit (lt_R kTop_isAhead) (lt_n kTop_isAhead) (lt_fl kTop_isAhead).1 (lt_fl kTop_isAhead).2 (lt_r kTop_isAhead) (lt_b kTop_isAhead) (pc_Top_isAhead) (pc_Top_isAhead 4) (i_Top_isAhead_4) = true := by decide +kernel
theorem fit_Top_within_0 : sm_fit (lt_R kTop_within) (lt_n kTop_within) (lt_fl kTop_within).1 (lt_fl kTop_within).2 (lt_r kTop_within) (lt_b kTop_within) (pc_Top_within) (pc_Top_within 0) (i_Top_within_0) = true := by decide +kernel
theorem fit_Top_within_1 : sm_fit (lt_R kTop_within) (lt_n kTop_within) (lt_fl kTop_within).1 (lt_fl kTop_within).2 (lt_r kTop_within) (lt_b kTop_within) (pc_Top_within) (pc_Top_within 1) (i_Top_within_1) = true := by decide +kernel
theorem fit_Top_within_2 : sm_fit (lt_R kTop_within) (lt_n kTop_within) (lt_fl kTop_within).1 (lt_fl kTop_within).2 (lt_r kTop_within) (lt_b kTop_within) (pc_Top_within) (pc_Top_within 2) (i_Top_within_2) = true := by decide +kernel
theorem fit_Top_within_3 : sm_fit (lt_R kTop_within) (lt_n kTop_within) (lt_fl kTop_within).1 (lt_fl kTop_within).2 (lt_r kTop_within) (lt_b kTop_within) (pc_Top_within) (pc_Top_within 3) (i_Top_within_3) = true := by decide +kernel
theorem fit_Top_within_4 : sm_fit (lt_R kTop_within) (lt_n kTop_within) (lt_fl kTop_within).1 (lt_fl kTop_within).2 (lt_r kTop_within) (lt_b kTop_within) (pc_Top_within) (pc_Top_within 4) (i_Top_within_4) = true := by decide +kernel
theorem fit_Model_thrown_0 : sm_fit (lt_R kModel_thrown) (lt_n kModel_thrown) (lt_fl kModel_thrown).1 (lt_fl kModel_thrown).2 (lt_r kModel_thrown) (lt_b kModel_thrown) (pc_Model_thrown) (pc_Model_thrown 0) (i_Model_thrown_0) = true := by decide +kernel
theorem fit_Model_in_0 : sm_fit (lt_R kModel_in) (lt_n kModel_in) (lt_fl kModel_in).1 (lt_fl kModel_in).2 (lt_r kModel_in) (lt_b kModel_in) (pc_Model_in) (pc_Model_in 0) (i_Model_in_0) = true := by decide +kernel
theorem fit_Model_in_1 : sm_fit (lt_R kModel_in) (lt_n kModel_in) (lt_fl kModel_in).1 (lt_fl kModel_in).2 (lt_r kModel_in) (lt_b kModel_in) (pc_Model_in) (pc_Model_in 1) (i_Model_in_1) = true := by decide +kernel
theorem fit_Model_in_2 : sm_fit (lt_R kModel_in) (lt_n kModel_in) (lt_fl kModel_in).1 (lt_fl kModel_in).2 (lt_r kModel_in) (lt_b kModel_in) (pc_Model_in) (pc_Model_in 2) (i_Model_in_2) = true := by decide +kernel
theorem fit_Model_in_3 : sm_fit (lt_R kModel_in) (lt_n kModel_in) (lt_fl kModel_in).1 (lt_fl kModel_in).2 (lt_r kModel_in) (lt_b kModel_in) (pc_Model_in) (pc_Model_in 3) (i_Model_in_3) = true := by decide +kernel
theorem fit_Model_in_4 : sm_fit (lt_R kModel_in) (lt_n kModel_in) (lt_fl kModel_in).1 (lt_fl kModel_in).2 (lt_r kModel_in) (lt_b kModel_in) (pc_Model_in) (pc_Model_in 4) (i_Model_in_4) = true := by decide +kernel
theorem fit_Model_isThird_0 : sm_fit (lt_R kModel_isThird) (lt_n kModel_isThird) (lt_fl kModel_isThird).1 (lt_fl kModel_isThird).2 (lt_r kModel_isThird) (lt_b kModel_isThird) (pc_Model_isThird) (pc_Model_isThird 0) (i_Model_isThird_0) = true := by decide +kernel
theorem fit_Model_step_0 : sm_fit (lt_R kModel_step) (lt_n kModel_step) (lt_fl kModel_step).1 (lt_fl kModel_step).2 (lt_r kModel_step) (lt_b kModel_step) (pc_Model_step) (pc_Model_step 0) (i_Model_step_0) = true := by decide +kernel
theorem fit_Model_step_1 : sm_fit (lt_R kModel_step) (lt_n kModel_step) (lt_fl kModel_step).1 (lt_fl kModel_step).2 (lt_r kModel_step) (lt_b kModel_step) (pc_Model_step) (pc_Model_step 1) (i_Model_step_1) = true := by decide +kernel
theorem fit_Model_step_2 : sm_fit (lt_R kModel_step) (lt_n kModel_step) (lt_fl kModel_step).1 (lt_fl kModel_step).2 (lt_r kModel_step) (lt_b kModel_step) (pc_Model_step) (pc_Model_step 2) (i_Model_step_2) = true := by decide +kernel
theorem fit_Model_step_3 : sm_fit (lt_R kModel_step) (lt_n kModel_step) (lt_fl kModel_step).1 (lt_fl kModel_step).2 (lt_r kModel_step) (lt_b kModel_step) (pc_Model_step) (pc_Model_step 3) (i_Model_step_3) = true := by decide +kernel
theorem fit_Model_step_4 : sm_fit (lt_R kModel_step) (lt_n kModel_step) (lt_fl kModel_step).1 (lt_fl kModel_step).2 (lt_r kModel_step) (lt_b kModel_step) (pc_Model_step) (pc_Model_step 4) (i_Model_step_4) = true := by decide +kernel
theorem fit_Model_step_5 : sm_fit (lt_R kModel_step) (lt_n kModel_step) (lt_fl kModel_step).1 (lt_fl kModel_step).2 (lt_r kModel_step) (lt_b kModel_step) (pc_Model_step) (pc_Model_step 5) (i_Model_step_5) = true := by decide +kernel
theorem fit_Model_step_6 : sm_fit (lt_R kModel_step) (lt_n kModel_step) (lt_fl kModel_step).1 (lt_fl kModel_step).2 (lt_r kModel_step) (lt_b kModel_step) (pc_Model_step) (pc_Model_step 6) (i_Model_step_6) = true := by decide +kernel
theorem fit_Model_step_7 : sm_fit (lt_R kModel_step) (lt_n kModel_step) (lt_fl kModel_step).1 (lt_fl kModel_step).2 (lt_r kModel_step) (lt_b kModel_step) (pc_Model_step) (pc_Model_step 7) (i_Model_step_7) = true := by decide +kernel
theorem fit_Model_step_8 : sm_fit (lt_R kModel_step) (lt_n kModel_step) (lt_fl kModel_step).1 (lt_fl kModel_step).2 (lt_r kModel_step) (lt_b kModel_step) (pc_Model_step) (pc_Model_step 8) (i_Model_step_8) = true := by decide +kernel
theorem fit_Model_step_9 : sm_fit (lt_R kModel_step) (lt_n kModel_step) (lt_fl kModel_step).1 (lt_fl kModel_step).2 (lt_r kModel_step) (lt_b kModel_step) (pc_Model_step) (pc_Model_step 9) (i_Model_step_9) = true := by decide +kernel
theorem fit_Model_step_10 : sm_fit (lt_R kModel_step) (lt_n kModel_step) (lt_fl kModel_step).1 (lt_fl kModel_step).2 (lt_r kModel_step) (lt_b kModel_step) (pc_Model_step) (pc_Model_step 10) (i_Model_step_10) = true := by decide +kernel
theorem fit_Model_step_11 : sm_fit (lt_R kModel_step) (lt_n kModel_step) (lt_fl kModel_step).1 (lt_fl kModel_step).2 (lt_r kModel_step) (lt_b kModel_step) (pc_Model_step) (pc_Model_step 11) (i_Model_step_11) = true := by decide +kernel
theorem fit_Model_step_12 : sm_fit (lt_R kModel_step) (lt_n kModel_step) (lt_fl kModel_step).1 (lt_fl kModel_step).2 (lt_r kModel_step) (lt_b kModel_step) (pc_Model_step) (pc_Model_step 12) (i_Model_step_12) = true := by decide +kernel
theorem fit_Model_step_13 : sm_fit (lt_R kModel_step) (lt_n kModel_step) (lt_fl kModel_step).1 (lt_fl kModel_step).2 (lt_r kModel_step) (lt_b kModel_step) (pc_Model_step) (pc_Model_step 13) (i_Model_step_13) = true := by decide +kernel
theorem fit_Model_step_14 : sm_fit (lt_R kModel_step) (lt_n kModel_step) (lt_fl kModel_step).1 (lt_fl kModel_step).2 (lt_r kModel_step) (lt_b kModel_step) (pc_Model_step) (pc_Model_step 14) (i_Model_step_14) = true := by decide +kernel
theorem fit_Model_step_15 : sm_fit (lt_R kModel_step) (lt_n kModel_step) (lt_fl kModel_step).1 (lt_fl kModel_step).2 (lt_r kModel_step) (lt_b kModel_step) (pc_Model_step) (pc_Model_step 15) (i_Model_step_15) = true := by decide +kernel
theorem fit_Model_step_16 : sm_fit (lt_R kModel_step) (lt_n kModel_step) (lt_fl kModel_step).1 (lt_fl kModel_step).2 (lt_r kModel_step) (lt_b kModel_step) (pc_Model_step) (pc_Model_step 16) (i_Model_step_16) = true := by decide +kernel
theorem fit_Model_step_17 : sm_fit (lt_R kModel_step) (lt_n kModel_step) (lt_fl kModel_step).1 (lt_fl kModel_step).2 (lt_r kModel_step) (lt_b kModel_step) (pc_Model_step) (pc_Model_step 17) (i_Model_step_17) = true := by decide +kernel
theorem fit_Model_step_18 : sm_fit (lt_R kModel_step) (lt_n kModel_step) (lt_fl kModel_step).1 (lt_fl kModel_step).2 (lt_r kModel_step) (lt_b kModel_step) (pc_Model_step) (pc_Model_step 18) (i_Model_step_18) = true := by decide +kernel
theorem fit_Model_step_19 : sm_fit (lt_R kModel_step) (lt_n kModel_step) (lt_fl kModel_step).1 (lt_fl kModel_step).2 (lt_r kModel_step) (lt_b kModel_step) (pc_Model_step) (pc_Model_step 19) (i_Model_step_19) = true := by decide +kernel
theorem fit_Model_step_20 : sm_fit (lt_R kModel_step) (lt_n kModel_step) (lt_fl kModel_step).1 (lt_fl kModel_step).2 (lt_r kModel_step) (lt_b kModel_step) (pc_Model_step) (pc_Model_step 20) (i_Model_step_20) = true := by decide +kernel
theorem fit_Model_step_21 : sm_fit (lt_R kModel_step) (lt_n kModel_step) (lt_fl kModel_step).1 (lt_fl kModel_step).2 (lt_r kModel_step) (lt_b kModel_step) (pc_Model_step) (pc_Model_step 21) (i_Model_step_21) = true := by decide +kernel
theorem fit_Model_step_22 : sm_fit (lt_R kModel_step) (lt_n kModel_step) (lt_fl kModel_step).1 (lt_fl kModel_step).2 (lt_r kModel_step) (lt_b kModel_step) (pc_Model_step) (pc_Model_step 22) (i_Model_step_22) = true := by decide +kernel
theorem fit_Model_step_23 : sm_fit (lt_R kModel_step) (lt_n kModel_step) (lt_fl kModel_step).1 (lt_fl kModel_step).2 (lt_r kModel_step) (lt_b kModel_step) (pc_Model_step) (pc_Model_step 23) (i_Model_step_23) = true := by decide +kernel
theorem fit_Model_step_24 : sm_fit (lt_R kModel_step) (lt_n kModel_step) (lt_fl kModel_step).1 (lt_fl kModel_step).2 (lt_r kModel_step) (lt_b kModel_step) (pc_Model_step) (pc_Model_step 24) (i_Model_step_24) = true := by decide +kernel
theorem fit_Model_step_25 : sm_fit (lt_R kModel_step) (lt_n kModel_step) (lt_fl kModel_step).1 (lt_fl kModel_step).2 (lt_r kModel_step) (lt_b kModel_step) (pc_Model_step) (pc_Model_step 25) (i_Model_step_25) = true := by decide +kernel
theorem fit_Model_step_26 : sm_fit (lt_R kModel_step) (lt_n kModel_step) (lt_fl kModel_step).1 (lt_fl kModel_step).2 (lt_r kModel_step) (lt_b kModel_step) (pc_Model_step) (pc_Model_step 26) (i_Model_step_26) = true := by decide +kernel
theorem fit_Model_goesBeyond_0 : sm_fit (lt_R kModel_goesBeyond) (lt_n kModel_goesBeyond) (lt_fl kModel_goesBeyond).1 (lt_fl kModel_goesBeyond).2 (lt_r kModel_goesBeyond) (lt_b kModel_goesBeyond) (pc_Model_goesBeyond) (pc_Model_goesBeyond 0) (i_Model_goesBeyond_0) = true := by decide +kernel
theorem fit_Model_goesBeyond_1 : sm_fit (lt_R kModel_goesBeyond) (lt_n kModel_goesBeyond) (lt_fl kModel_goesBeyond).1 (lt_fl kModel_goesBeyond).2 (lt_r kModel_goesBeyond) (lt_b kModel_goesBeyond) (pc_Model_goesBeyond) (pc_Model_goesBeyond 1) (i_Model_goesBeyond_1) = true := by decide +kernel
theorem fit_Model_goesBeyond_2 : sm_fit (lt_R kModel_goesBeyond) (lt_n kModel_goesBeyond) (lt_fl kModel_goesBeyond).1 (lt_fl kModel_goesBeyond).2 (lt_r kModel_goesBeyond) (lt_b kModel_goesBeyond) (pc_Model_goesBeyond) (pc_Model_goesBeyond 2) (i_Model_goesBeyond_2) = true := by decide +kernel
theorem fit_Model_goesBeyond_3 : sm_fit (lt_R kModel_goesBeyond) (lt_n kModel_goesBeyond) (lt_fl kModel_goesBeyond).1 (lt_fl kModel_goesBeyond).2 (lt_r kModel_goesBeyond) (lt_b kModel_goesBeyond) (pc_Model_goesBeyond) (pc_Model_goesBeyond 3) (i_Model_goesBeyond_3) = true := by decide +kernel
theorem fit_Model_goesBeyond_4 : sm_fit (lt_R kModel_goesBeyond) (lt_n kModel_goesBeyond) (lt_fl kModel_goesBeyond).1 (lt_fl kModel_goesBeyond).2 (lt_r kModel_goesBeyond) (lt_b kModel_goesBeyond) (pc_Model_goesBeyond) (pc_Model_goesBeyond 4) (i_Model_goesBeyond_4) = true := by decide +kernel
theorem fit_Model_goesBeyond_5 : sm_fit (lt_R kModel_goesBeyond) (lt_n kModel_goesBeyond) (lt_fl kModel_goesBeyond).1 (lt_fl kModel_goesBeyond).2 (lt_r kModel_goesBeyond) (lt_b kModel_goesBeyond) (pc_Model_goesBeyond) (pc_Model_goesBeyond 5) (i_Model_goesBeyond_5) = true := by decide +kernel
theorem fit_Model_goesBeyond_6 : sm_fit (lt_R kModel_goesBeyond) (lt_n kModel_goesBeyond) (lt_fl kModel_goesBeyond).1 (lt_fl kModel_goesBeyond).2 (lt_r kModel_goesBeyond) (lt_b kModel_goesBeyond) (pc_Model_goesBeyond) (pc_Model_goesBeyond 6) (i_Model_goesBeyond_6) = true := by decide +kernel
theorem fit_Model_goesBeyond_7 : sm_fit (lt_R kModel_goesBeyond) (lt_n kModel_goesBeyond) (lt_fl kModel_goesBeyond).1 (lt_fl kModel_goesBeyond).2 (lt_r kModel_goesBeyond) (lt_b kModel_goesBeyond) (pc_Model_goesBeyond) (pc_Model_goesBeyond 7) (i_Model_goesBeyond_7) = true := by decide +kernel
theorem fit_Model_goesBeyond_8 : sm_fit (lt_R kModel_goesBeyond) (lt_n kModel_goesBeyond) (lt_fl kModel_goesBeyond).1 (lt_fl kModel_goesBeyond).2 (lt_r kModel_goesBeyond) (lt_b kModel_goesBeyond) (pc_Model_goesBeyond) (pc_Model_goesBeyond 8) (i_Model_goesBeyond_8) = true := by decide +kernel
theorem fit_Model_goesBeyond_9 : sm_fit (lt_R kModel_goesBeyond) (lt_n kModel_goesBeyond) (lt_fl kModel_goesBeyond).1 (lt_fl kModel_goesBeyond).2 (lt_r kModel_goesBeyond) (lt_b kModel_goesBeyond) (pc_Model_goesBeyond) (pc_Model_goesBeyond 9) (i_Model_goesBeyond_9) = true := by decide +kernel
theorem fit_Model_goesBeyond_10 : sm_fit (lt_R kModel_goesBeyond) (lt_n kModel_goesBeyond) (lt_fl kModel_goesBeyond).1 (lt_fl kModel_goesBeyond).2 (lt_r kModel_goesBeyond) (lt_b kModel_goesBeyond) (pc_Model_goesBeyond) (pc_Model_goesBeyond 10) (i_Model_goesBeyond_10) = true := by decide +kernel
theorem fit_Model_goesBeyond_11 : sm_fit (lt_R kModel_goesBeyond) (lt_n kModel_goesBeyond) (lt_fl kModel_goesBeyond).1 (lt_fl kModel_goesBeyond).2 (lt_r kModel_goesBeyond) (lt_b kModel_goesBeyond) (pc_Model_goesBeyond) (pc_Model_goesBeyond 11) (i_Model_goesBeyond_11) = true := by decide +kernel
theorem fit_Model_channel_0 : sm_fit (lt_R kModel_channel) (lt_n kModel_channel) (lt_fl kModel_channel).1 (lt_fl kModel_channel).2 (lt_r kModel_channel) (lt_b kModel_channel) (pc_Model_channel) (pc_Model_channel 0) (i_Model_channel_0) = true := by decide +kernel
theorem fit_Model_channel_1 : sm_fit (lt_R kModel_channel) (lt_n kModel_channel) (lt_fl kModel_channel).1 (lt_fl kModel_channel).2 (lt_r kModel_channel) (lt_b kModel_channel) (pc_Model_channel) (pc_Model_channel 1) (i_Model_channel_1) = true := by decide +kernel
theorem fit_Model_channel_2 : sm_fit (lt_R kModel_channel) (lt_n kModel_channel) (lt_fl kModel_channel).1 (lt_fl kModel_channel).2 (lt_r kModel_channel) (lt_b kModel_channel) (pc_Model_channel) (pc_Model_channel 2) (i_Model_channel_2) = true := by decide +kernel
theorem fit_Model_channel_3 : sm_fit (lt_R kModel_channel) (lt_n kModel_channel) (lt_fl kModel_channel).1 (lt_fl kModel_channel).2 (lt_r kModel_channel) (lt_b kModel_channel) (pc_Model_channel) (pc_Model_channel 3) (i_Model_channel_3) = true := by decide +kernel
theorem fit_Model_channel_4 : sm_fit (lt_R kModel_channel) (lt_n kModel_channel) (lt_fl kModel_channel).1 (lt_fl kModel_channel).2 (lt_r kModel_channel) (lt_b kModel_channel) (pc_Model_channel) (pc_Model_channel 4) (i_Model_channel_4) = true := by decide +kernel
theorem fit_Model_channel_5 : sm_fit (lt_R kModel_channel) (lt_n kModel_channel) (lt_fl kModel_channel).1 (lt_fl kModel_channel).2 (lt_r kModel_channel) (lt_b kModel_channel) (pc_Model_channel) (pc_Model_channel 5) (i_Model_channel_5) = true := by decide +kernel
theorem fit_Model_channel_6 : sm_fit (lt_R kModel_channel) (lt_n kModel_channel) (lt_fl kModel_channel).1 (lt_fl kModel_channel).2 (lt_r kModel_channel) (lt_b kModel_channel) (pc_Model_channel) (pc_Model_channel 6) (i_Model_channel_6) = true := by decide +kernel
theorem fit_Model_channel_7 : sm_fit (lt_R kModel_channel) (lt_n kModel_channel) (lt_fl kModel_channel).1 (lt_fl kModel_channel).2 (lt_r kModel_channel) (lt_b kModel_channel) (pc_Model_channel) (pc_Model_channel 7) (i_Model_channel_7) = true := by decide +kernel
theorem fit_Model_channel_8 : sm_fit (lt_R kModel_channel) (lt_n kModel_channel) (lt_fl kModel_channel).1 (lt_fl kModel_channel).2 (lt_r kModel_channel) (lt_b kModel_channel) (pc_Model_channel) (pc_Model_channel 8) (i_Model_channel_8) = true := by decide +kernel
theorem fit_Model_channel_9 : sm_fit (lt_R kModel_channel) (lt_n kModel_channel) (lt_fl kModel_channel).1 (lt_fl kModel_channel).2 (lt_r kModel_channel) (lt_b kModel_channel) (pc_Model_channel) (pc_Model_channel 9) (i_Model_channel_9) = true := by decide +kernel
theorem fit_Model_channel_10 : sm_fit (lt_R kModel_channel) (lt_n kModel_channel) (lt_fl kModel_channel).1 (lt_fl kModel_channel).2 (lt_r kModel_channel) (lt_b kModel_channel) (pc_Model_channel) (pc_Model_channel 10) (i_Model_channel_10) = true := by decide +kernel
theorem fit_Model_channel_11 : sm_fit (lt_R kModel_channel) (lt_n kModel_channel) (lt_fl kModel_channel).1 (lt_fl kModel_channel).2 (lt_r kModel_channel) (lt_b kModel_channel) (pc_Model_channel) (pc_Model_channel 11) (i_Model_channel_11) = true := by decide +kernel
theorem fit_Model_channel_12 : sm_fit (lt_R kModel_channel) (lt_n kModel_channel) (lt_fl kModel_channel).1 (lt_fl kModel_channel).2 (lt_r kModel_channel) (lt_b kModel_channel) (pc_Model_channel) (pc_Model_channel 12) (i_Model_channel_12) = true := by decide +kernel
theorem fit_Model_channel_13 : sm_fit (lt_R kModel_channel) (lt_n kModel_channel) (lt_fl kModel_channel).1 (lt_fl kModel_channel).2 (lt_r kModel_channel) (lt_b kModel_channel) (pc_Model_channel) (pc_Model_channel 13) (i_Model_channel_13) = true := by decide +kernel
theorem fit_Model_channel_14 : sm_fit (lt_R kModel_channel) (lt_n kModel_channel) (lt_fl kModel_channel).1 (lt_fl kModel_channel).2 (lt_r kModel_channel) (lt_b kModel_channel) (pc_Model_channel) (pc_Model_channel 14) (i_Model_channel_14) = true := by decide +kernel
theorem fit_Model_channel_15 : sm_fit (lt_R kModel_channel) (lt_n kModel_channel) (lt_fl kModel_channel).1 (lt_fl kModel_channel).2 (lt_r kModel_channel) (lt_b kModel_channel) (pc_Model_channel) (pc_Model_channel 15) (i_Model_channel_15) = true := by decide +kernel
theorem fit_Model_channel_16 : sm_fit (lt_R kModel_channel) (lt_n kModel_channel) (lt_fl kModel_channel).1 (lt_fl kModel_channel).2 (lt_r kModel_channel) (lt_b kModel_channel) (pc_Model_channel) (pc_Model_channel 16) (i_Model_channel_16) = true := by decide +kernel
theorem fit_Model_changed_0 : sm_fit (lt_R kModel_changed) (lt_n kModel_changed) (lt_fl kModel_changed).1 (lt_fl kModel_changed).2 (lt_r kModel_changed) (lt_b kModel_changed) (pc_Model_changed) (pc_Model_changed 0) (i_Model_changed_0) = true := by decide +kernel
theorem fit_Model_isOp_0 : sm_fit (lt_R kModel_isOp) (lt_n kModel_isOp) (lt_fl kModel_isOp).1 (lt_fl kModel_isOp).2 (lt_r kModel_isOp) (lt_b kModel_isOp) (pc_Model_isOp) (pc_Model_isOp 0) (i_Model_isOp_0) = true := by decide +kernel
theorem fit_Model_isOp_1 : sm_fit (lt_R kModel_isOp) (lt_n kModel_isOp) (lt_fl kModel_isOp).1 (lt_fl kModel_isOp).2 (lt_r kModel_isOp) (lt_b kModel_isOp) (pc_Model_isOp) (pc_Model_isOp 1) (i_Model_isOp_1) = true := by decide +kernel
theorem fit_Model_isOp_2 : sm_fit (lt_R kModel_isOp) (lt_n kModel_isOp) (lt_fl kModel_isOp).1 (lt_fl kModel_isOp).2 (lt_r kModel_isOp) (lt_b kModel_isOp) (pc_Model_isOp) (pc_Model_isOp 2) (i_Model_isOp_2) = true := by decide +kernel
theorem fit_Model_isOp_3 : sm_fit (lt_R kModel_isOp) (lt_n kModel_isOp) (lt_fl kModel_isOp).1 (lt_fl kModel_isOp).2 (lt_r kModel_isOp) (lt_b kModel_isOp) (pc_Model_isOp) (pc_Model_isOp 3) (i_Model_isOp_3) = true := by decide +kernel
theorem fit_Model_isOp_4 : sm_fit (lt_R kModel_isOp) (lt_n kModel_isOp) (lt_fl kModel_isOp).1 (lt_fl kModel_isOp).2 (lt_r kModel_isOp) (lt_b kModel_isOp) (pc_Model_isOp) (pc_Model_isOp 4) (i_Model_isOp_4) = true := by decide +kernel
theorem fit_Model_isOp_5 : sm_fit (lt_R kModel_isOp) (lt_n kModel_isOp) (lt_fl kModel_isOp).1 (lt_fl kModel_isOp).2 (lt_r kModel_isOp) (lt_b kModel_isOp) (pc_Model_isOp) (pc_Model_isOp 5) (i_Model_isOp_5) = true := by decide +kernel
theorem fit_Model_isOp_6 : sm_fit (lt_R kModel_isOp) (lt_n kModel_isOp) (lt_fl kModel_isOp).1 (lt_fl kModel_isOp).2 (lt_r kModel_isOp) (lt_b kModel_isOp) (pc_Model_isOp) (pc_Model_isOp 6) (i_Model_isOp_6) = true := by decide +kernel
theorem fit_Model_isOp_7 : sm_fit (lt_R kModel_isOp) (lt_n kModel_isOp) (lt_fl kModel_isOp).1 (lt_fl kModel_isOp).2 (lt_r kModel_isOp) (lt_b kModel_isOp) (pc_Model_isOp) (pc_Model_isOp 7) (i_Model_isOp_7) = true := by decide +kernel
theorem fit_Model_isOp_8 : sm_fit (lt_R kModel_isOp) (lt_n kModel_isOp) (lt_fl kModel_isOp).1 (lt_fl kModel_isOp).2 (lt_r kModel_isOp) (lt_b kModel_isOp) (pc_Model_isOp) (pc_Model_isOp 8) (i_Model_isOp_8) = true := by decide +kernel
theorem fit_Model_isOp_9 : sm_fit (lt_R kModel_isOp) (lt_n kModel_isOp) (lt_fl kModel_isOp).1 (lt_fl kModel_isOp).2 (lt_r kModel_isOp) (lt_b kModel_isOp) (pc_Model_isOp) (pc_Model_isOp 9) (i_Model_isOp_9) = true := by decide +kernel
theorem fit_Model_isOp_10 : sm_fit (lt_R kModel_isOp) (lt_n kModel_isOp) (lt_fl kModel_isOp).1 (lt_fl kModel_isOp).2 (lt_r kModel_isOp) (lt_b kModel_isOp) (pc_Model_isOp) (pc_Model_isOp 10) (i_Model_isOp_10) = true := by decide +kernel
theorem fit_Model_isOp_11 : sm_fit (lt_R kModel_isOp) (lt_n kModel_isOp) (lt_fl kModel_isOp).1 (lt_fl kModel_isOp).2 (lt_r kModel_isOp) (lt_b kModel_isOp) (pc_Model_isOp) (pc_Model_isOp 11) (i_Model_isOp_11) = true := by decide +kernel
theorem fit_Model_isOp_12 : sm_fit (lt_R kModel_isOp) (lt_n kModel_isOp) (lt_fl kModel_isOp).1 (lt_fl kModel_isOp).2 (lt_r kModel_isOp) (lt_b kModel_isOp) (pc_Model_isOp) (pc_Model_isOp 12) (i_Model_isOp_12) = true := by decide +kernel
theorem fit_Model_isOp_13 : sm_fit (lt_R kModel_isOp) (lt_n kModel_isOp) (lt_fl kModel_isOp).1 (lt_fl kModel_isOp).2 (lt_r kModel_isOp) (lt_b kModel_isOp) (pc_Model_isOp) (pc_Model_isOp 13) (i_Model_isOp_13) = true := by decide +kernel
theorem fit_Model_isOp_14 : sm_fit (lt_R kModel_isOp) (lt_n kModel_isOp) (lt_fl kModel_isOp).1 (lt_fl kModel_isOp).2 (lt_r kModel_isOp) (lt_b kModel_isOp) (pc_Model_isOp) (pc_Model_isOp 14) (i_Model_isOp_14) = true := by decide +kernel
theorem fit_Model_isOp_15 : sm_fit (lt_R kModel_isOp) (lt_n kModel_isOp) (lt_fl kModel_isOp).1 (lt_fl kModel_isOp).2 (lt_r kModel_isOp) (lt_b kModel_isOp) (pc_Model_isOp) (pc_Model_isOp 15) (i_Model_isOp_15) = true := by decide +kernel
theorem fit_Model_isOp_16 : sm_fit (lt_R kModel_isOp) (lt_n kModel_isOp) (lt_fl kModel_isOp).1 (lt_fl kModel_isOp).2 (lt_r kModel_isOp) (lt_b kModel_isOp) (pc_Model_isOp) (pc_Model_isOp 16) (i_Model_isOp_16) = true := by decide +kernel
theorem fit_Model_isOp_17 : sm_fit (lt_R kModel_isOp) (lt_n kModel_isOp) (lt_fl kModel_isOp).1 (lt_fl kModel_isOp).2 (lt_r kModel_isOp) (lt_b kModel_isOp) (pc_Model_isOp) (pc_Model_isOp 17) (i_Model_isOp_17) = true := by decide +kernel
theorem fit_Model_isOp_18 : sm_fit (lt_R kModel_isOp) (lt_n kModel_isOp) (lt_fl kModel_isOp).1 (lt_fl kModel_isOp).2 (lt_r kModel_isOp) (lt_b kModel_isOp) (pc_Model_isOp) (pc_Model_isOp 18) (i_Model_isOp_18) = true := by decide +kernel
theorem fit_Model_isOp_19 : sm_fit (lt_R kModel_isOp) (lt_n kModel_isOp) (lt_fl kModel_isOp).1 (lt_fl kModel_isOp).2 (lt_r kModel_isOp) (lt_b kModel_isOp) (pc_Model_isOp) (pc_Model_isOp 19) (i_Model_isOp_19) = true := by decide +kernel
theorem fit_Model_isOp_20 : sm_fit (lt_R kModel_isOp) (lt_n kModel_isOp) (lt_fl kModel_isOp).1 (lt_fl kModel_isOp).2 (lt_r kModel_isOp) (lt_b kModel_isOp) (pc_Model_isOp) (pc_Model_isOp 20) (i_Model_isOp_20) = true := by decide +kernel
theorem fit_Model_isOp_21 : sm_fit (lt_R kModel_isOp) (lt_n kModel_isOp) (lt_fl kModel_isOp).1 (lt_fl kModel_isOp).2 (lt_r kModel_isOp) (lt_b kModel_isOp) (pc_Model_isOp) (pc_Model_isOp 21) (i_Model_isOp_21) = true := by decide +kernel
theorem fit_Model_isOp_22 : sm_fit (lt_R kModel_isOp) (lt_n kModel_isOp) (lt_fl kModel_isOp).1 (lt_fl kModel_isOp).2 (lt_r kModel_isOp) (lt_b kModel_isOp) (pc_Model_isOp) (pc_Model_isOp 22) (i_Model_isOp_22) = true := by decide +kernel
theorem fit_Model_isOp_23 : sm_fit (lt_R kModel_isOp) (lt_n kModel_isOp) (lt_fl kModel_isOp).1 (lt_fl kModel_isOp).2 (lt_r kModel_isOp) (lt_b kModel_isOp) (pc_Model_isOp) (pc_Model_isOp 23) (i_Model_isOp_23) = true := by decide +kernel
theorem fit_Model_isOp_24 : sm_fit (lt_R kModel_isOp) (lt_n kModel_isOp) (lt_fl kModel_isOp).1 (lt_fl kModel_isOp).2 (lt_r kModel_isOp) (lt_b kModel_isOp) (pc_Model_isOp) (pc_Model_isOp 24) (i_Model_isOp_24) = true := by decide +kernel
theorem fit_Model_op_0 : sm_fit (lt_R kModel_op) (lt_n kModel_op) (lt_fl kModel_op).1 (lt_fl kModel_op).2 (lt_r kModel_op) (lt_b kModel_op) (pc_Model_op) (pc_Model_op 0) (i_Model_op_0) = true := by decide +kernel
theorem fit_Model_op_1 : sm_fit (lt_R kModel_op) (lt_n kModel_op) (lt_fl kModel_op).1 (lt_fl kModel_op).2 (lt_r kModel_op) (lt_b kModel_op) (pc_Model_op) (pc_Model_op 1) (i_Model_op_1) = true := by decide +kernel
theorem fit_Model_op_2 : sm_fit (lt_R kModel_op) (lt_n kModel_op) (lt_fl kModel_op).1 (lt_fl kModel_op).2 (lt_r kModel_op) (lt_b kModel_op) (pc_Model_op) (pc_Model_op 2) (i_Model_op_2) = true := by decide +kernel
theorem fit_Model_op_3 : sm_fit (lt_R kModel_op) (lt_n kModel_op) (lt_fl kModel_op).1 (lt_fl kModel_op).2 (lt_r kModel_op) (lt_b kModel_op) (pc_Model_op) (pc_Model_op 3) (i_Model_op_3) = true := by decide +kernel
theorem fit_Model_op_4 : sm_fit (lt_R kModel_op) (lt_n kModel_op) (lt_fl kModel_op).1 (lt_fl kModel_op).2 (lt_r kModel_op) (lt_b kModel_op) (pc_Model_op) (pc_Model_op 4) (i_Model_op_4) = true := by decide +kernel
theorem fit_Model_op_5 : sm_fit (lt_R kModel_op) (lt_n kModel_op) (lt_fl kModel_op).1 (lt_fl kModel_op).2 (lt_r kModel_op) (lt_b kModel_op) (pc_Model_op) (pc_Model_op 5) (i_Model_op_5) = true := by decide +kernel
theorem fit_Model_op_6 : sm_fit (lt_R kModel_op) (lt_n kModel_op) (lt_fl kModel_op).1 (lt_fl kModel_op).2 (lt_r kModel_op) (lt_b kModel_op) (pc_Model_op) (pc_Model_op 6) (i_Model_op_6) = true := by decide +kernel
theorem fit_Model_op_7 : sm_fit (lt_R kModel_op) (lt_n kModel_op) (lt_fl kModel_op).1 (lt_fl kModel_op).2 (lt_r kModel_op) (lt_b kModel_op) (pc_Model_op) (pc_Model_op 7) (i_Model_op_7) = true := by decide +kernel
theorem fit_Model_op_8 : sm_fit (lt_R kModel_op) (lt_n kModel_op) (lt_fl kModel_op).1 (lt_fl kModel_op).2 (lt_r kModel_op) (lt_b kModel_op) (pc_Model_op) (pc_Model_op 8) (i_Model_op_8) = true := by decide +kernel
theorem fit_Model_op_9 : sm_fit (lt_R kModel_op) (lt_n kModel_op) (lt_fl kModel_op).1 (lt_fl kModel_op).2 (lt_r kModel_op) (lt_b kModel_op) (pc_Model_op) (pc_Model_op 9) (i_Model_op_9) = true := by decide +kernel
theorem fit_Model_unop_0 : sm_fit (lt_R kModel_unop) (lt_n kModel_unop) (lt_fl kModel_unop).1 (lt_fl kModel_unop).2 (lt_r kModel_unop) (lt_b kModel_unop) (pc_Model_unop) (pc_Model_unop 0) (i_Model_unop_0) = true := by decide +kernel
theorem fit_Model_unop_1 : sm_fit (lt_R kModel_unop) (lt_n kModel_unop) (lt_fl kModel_unop).1 (lt_fl kModel_unop).2 (lt_r kModel_unop) (lt_b kModel_unop) (pc_Model_unop) (pc_Model_unop 1) (i_Model_unop_1) = true := by decide +kernel
theorem fit_Model_unop_2 : sm_fit (lt_R kModel_unop) (lt_n kModel_unop) (lt_fl kModel_unop).1 (lt_fl kModel_unop).2 (lt_r kModel_unop) (lt_b kModel_unop) (pc_Model_unop) (pc_Model_unop 2) (i_Model_unop_2) = true := by decide +kernel
theorem fit_Model_unop_3 : sm_fit (lt_R kModel_unop) (lt_n kModel_unop) (lt_fl kModel_unop).1 (lt_fl kModel_unop).2 (lt_r kModel_unop) (lt_b kModel_unop) (pc_Model_unop) (pc_Model_unop 3) (i_Model_unop_3) = true := by decide +kernel
theorem fit_Model_unop_4 : sm_fit (lt_R kModel_unop) (lt_n kModel_unop) (lt_fl kModel_unop).1 (lt_fl kModel_unop).2 (lt_r kModel_unop) (lt_b kModel_unop) (pc_Model_unop) (pc_Model_unop 4) (i_Model_unop_4) = true := by decide +kernel
theorem fit_Model_unop_5 : sm_fit (lt_R kModel_unop) (lt_n kModel_unop) (lt_fl kModel_unop).1 (lt_fl kModel_unop).2 (lt_r kModel_unop) (lt_b kModel_unop) (pc_Model_unop) (pc_Model_unop 5) (i_Model_unop_5) = true := by decide +kernel
theorem fit_Model_unop_6 : sm_fit (lt_R kModel_unop) (lt_n kModel_unop) (lt_fl kModel_unop).1 (lt_fl kModel_unop).2 (lt_r kModel_unop) (lt_b kModel_unop) (pc_Model_unop) (pc_Model_unop 6) (i_Model_unop_6) = true := by decide +kernel
theorem fit_Model_unop_7 : sm_fit (lt_R kModel_unop) (lt_n kModel_unop) (lt_fl kModel_unop).1 (lt_fl kModel_unop).2 (lt_r kModel_unop) (lt_b kModel_unop) (pc_Model_unop) (pc_Model_unop 7) (i_Model_unop_7) = true := by decide +kernel
theorem fit_Model_usedBy_0 : sm_fit (lt_R kModel_usedBy) (lt_n kModel_usedBy) (lt_fl kModel_usedBy).1 (lt_fl kModel_usedBy).2 (lt_r kModel_usedBy) (lt_b kModel_usedBy) (pc_Model_usedBy) (pc_Model_usedBy 0) (i_Model_usedBy_0) = true := by decide +kernel
theorem fit_Model_usedBy_1 : sm_fit (lt_R kModel_usedBy) (lt_n kModel_usedBy) (lt_fl kModel_usedBy).1 (lt_fl kModel_usedBy).2 (lt_r kModel_usedBy) (lt_b kModel_usedBy) (pc_Model_usedBy) (pc_Model_usedBy 1) (i_Model_usedBy_1) = true := by decide +kernel
theorem fit_Model_usedBy_2 : sm_fit (lt_R kModel_usedBy) (lt_n kModel_usedBy) (lt_fl kModel_usedBy).1 (lt_fl kModel_usedBy).2 (lt_r kModel_usedBy) (lt_b kModel_usedBy) (pc_Model_usedBy) (pc_Model_usedBy 2) (i_Model_usedBy_2) = true := by decide +kernel
theorem fit_Model_usedBy_3 : sm_fit (lt_R kModel_usedBy) (lt_n kModel_usedBy) (lt_fl kModel_usedBy).1 (lt_fl kModel_usedBy).2 (lt_r kModel_usedBy) (lt_b kModel_usedBy) (pc_Model_usedBy) (pc_Model_usedBy 3) (i_Model_usedBy_3) = true := by decide +kernel
theorem fit_Model_targetOf_0 : sm_fit (lt_R kModel_targetOf) (lt_n kModel_targetOf) (lt_fl kModel_targetOf).1 (lt_fl kModel_targetOf).2 (lt_r kModel_targetOf) (lt_b kModel_targetOf) (pc_Model_targetOf) (pc_Model_targetOf 0) (i_Model_targetOf_0) = true := by decide +kernel
theorem fit_Model_targetOf_1 : sm_fit (lt_R kModel_targetOf) (lt_n kModel_targetOf) (lt_fl kModel_targetOf).1 (lt_fl kModel_targetOf).2 (lt_r kModel_targetOf) (lt_b kModel_targetOf) (pc_Model_targetOf) (pc_Model_targetOf 1) (i_Model_targetOf_1) = true := by decide +kernel
theorem fit_Model_targetOf_2 : sm_fit (lt_R kModel_targetOf) (lt_n kModel_targetOf) (lt_fl kModel_targetOf).1 (lt_fl kModel_targetOf).2 (lt_r kModel_targetOf) (lt_b kModel_targetOf) (pc_Model_targetOf) (pc_Model_targetOf 2) (i_Model_targetOf_2) = true := by decide +kernel
theorem fit_Model_targetOf_3 : sm_fit (lt_R kModel_targetOf) (lt_n kModel_targetOf) (lt_fl kModel_targetOf).1 (lt_fl kModel_targetOf).2 (lt_r kModel_targetOf) (lt_b kModel_targetOf) (pc_Model_targetOf) (pc_Model_targetOf 3) (i_Model_targetOf_3) = true := by decide +kernel
theorem fit_Model_isOf_0 : sm_fit (lt_R kModel_isOf) (lt_n kModel_isOf) (lt_fl kModel_isOf).1 (lt_fl kModel_isOf).2 (lt_r kModel_isOf) (lt_b kModel_isOf) (pc_Model_isOf) (pc_Model_isOf 0) (i_Model_isOf_0) = true := by decide +kernel
theorem fit_Model_isOf_1 : sm_fit (lt_R kModel_isOf) (lt_n kModel_isOf) (lt_fl kModel_isOf).1 (lt_fl kModel_isOf).2 (lt_r kModel_isOf) (lt_b kModel_isOf) (pc_Model_isOf) (pc_Model_isOf 1) (i_Model_isOf_1) = true := by decide +kernel
theorem fit_Model_isOf_2 : sm_fit (lt_R kModel_isOf) (lt_n kModel_isOf) (lt_fl kModel_isOf).1 (lt_fl kModel_isOf).2 (lt_r kModel_isOf) (lt_b kModel_isOf) (pc_Model_isOf) (pc_Model_isOf 2) (i_Model_isOf_2) = true := by decide +kernel
theorem fit_Model_isOf_3 : sm_fit (lt_R kModel_isOf) (lt_n kModel_isOf) (lt_fl kModel_isOf).1 (lt_fl kModel_isOf).2 (lt_r kModel_isOf) (lt_b kModel_isOf) (pc_Model_isOf) (pc_Model_isOf 3) (i_Model_isOf_3) = true := by decide +kernel
theorem fit_Model_isOf_4 : sm_fit (lt_R kModel_isOf) (lt_n kModel_isOf) (lt_fl kModel_isOf).1 (lt_fl kModel_isOf).2 (lt_r kModel_isOf) (lt_b kModel_isOf) (pc_Model_isOf) (pc_Model_isOf 4) (i_Model_isOf_4) = true := by decide +kernel
theorem fit_Model_isOf_5 : sm_fit (lt_R kModel_isOf) (lt_n kModel_isOf) (lt_fl kModel_isOf).1 (lt_fl kModel_isOf).2 (lt_r kModel_isOf) (lt_b kModel_isOf) (pc_Model_isOf) (pc_Model_isOf 5) (i_Model_isOf_5) = true := by decide +kernel
theorem fit_Model_stepFor_0 : sm_fit (lt_R kModel_stepFor) (lt_n kModel_stepFor) (lt_fl kModel_stepFor).1 (lt_fl kModel_stepFor).2 (lt_r kModel_stepFor) (lt_b kModel_stepFor) (pc_Model_stepFor) (pc_Model_stepFor 0) (i_Model_stepFor_0) = true := by decide +kernel
theorem fit_Model_stepFor_1 : sm_fit (lt_R kModel_stepFor) (lt_n kModel_stepFor) (lt_fl kModel_stepFor).1 (lt_fl kModel_stepFor).2 (lt_r kModel_stepFor) (lt_b kModel_stepFor) (pc_Model_stepFor) (pc_Model_stepFor 1) (i_Model_stepFor_1) = true := by decide +kernel
theorem fit_Model_stepFor_2 : sm_fit (lt_R kModel_stepFor) (lt_n kModel_stepFor) (lt_fl kModel_stepFor).1 (lt_fl kModel_stepFor).2 (lt_r kModel_stepFor) (lt_b kModel_stepFor) (pc_Model_stepFor) (pc_Model_stepFor 2) (i_Model_stepFor_2) = true := by decide +kernel
theorem fit_Model_stepFor_3 : sm_fit (lt_R kModel_stepFor) (lt_n kModel_stepFor) (lt_fl kModel_stepFor).1 (lt_fl kModel_stepFor).2 (lt_r kModel_stepFor) (lt_b kModel_stepFor) (pc_Model_stepFor) (pc_Model_stepFor 3) (i_Model_stepFor_3) = true := by decide +kernel
theorem fit_Model_stepFor_4 : sm_fit (lt_R kModel_stepFor) (lt_n kModel_stepFor) (lt_fl kModel_stepFor).1 (lt_fl kModel_stepFor).2 (lt_r kModel_stepFor) (lt_b kModel_stepFor) (pc_Model_stepFor) (pc_Model_stepFor 4) (i_Model_stepFor_4) = true := by decide +kernel
theorem fit_Model_stepKind_0 : sm_fit (lt_R kModel_stepKind) (lt_n kModel_stepKind) (lt_fl kModel_stepKind).1 (lt_fl kModel_stepKind).2 (lt_r kModel_stepKind) (lt_b kModel_stepKind) (pc_Model_stepKind) (pc_Model_stepKind 0) (i_Model_stepKind_0) = true := by decide +kernel
theorem fit_Model_stepThen_0 : sm_fit (lt_R kModel_stepThen) (lt_n kModel_stepThen) (lt_fl kModel_stepThen).1 (lt_fl kModel_stepThen).2 (lt_r kModel_stepThen) (lt_b kModel_stepThen) (pc_Model_stepThen) (pc_Model_stepThen 0) (i_Model_stepThen_0) = true := by decide +kernel
theorem fit_Model_stepThen_1 : sm_fit (lt_R kModel_stepThen) (lt_n kModel_stepThen) (lt_fl kModel_stepThen).1 (lt_fl kModel_stepThen).2 (lt_r kModel_stepThen) (lt_b kModel_stepThen) (pc_Model_stepThen) (pc_Model_stepThen 1) (i_Model_stepThen_1) = true := by decide +kernel
theorem fit_Model_stepThen_2 : sm_fit (lt_R kModel_stepThen) (lt_n kModel_stepThen) (lt_fl kModel_stepThen).1 (lt_fl kModel_stepThen).2 (lt_r kModel_stepThen) (lt_b kModel_stepThen) (pc_Model_stepThen) (pc_Model_stepThen 2) (i_Model_stepThen_2) = true := by decide +kernel
theorem fit_Model_stepThen_3 : sm_fit (lt_R kModel_stepThen) (lt_n kModel_stepThen) (lt_fl kModel_stepThen).1 (lt_fl kModel_stepThen).2 (lt_r kModel_stepThen) (lt_b kModel_stepThen) (pc_Model_stepThen) (pc_Model_stepThen 3) (i_Model_stepThen_3) = true := by decide +kernel
theorem fit_Model_stepThen_4 : sm_fit (lt_R kModel_stepThen) (lt_n kModel_stepThen) (lt_fl kModel_stepThen).1 (lt_fl kModel_stepThen).2 (lt_r kModel_stepThen) (lt_b kModel_stepThen) (pc_Model_stepThen) (pc_Model_stepThen 4) (i_Model_stepThen_4) = true := by decide +kernel
theorem fit_Model_needs_0 : sm_fit (lt_R kModel_needs) (lt_n kModel_needs) (lt_fl kModel_needs).1 (lt_fl kModel_needs).2 (lt_r kModel_needs) (lt_b kModel_needs) (pc_Model_needs) (pc_Model_needs 0) (i_Model_needs_0) = true := by decide +kernel
theorem fit_Model_needs_1 : sm_fit (lt_R kModel_needs) (lt_n kModel_needs) (lt_fl kModel_needs).1 (lt_fl kModel_needs).2 (lt_r kModel_needs) (lt_b kModel_needs) (pc_Model_needs) (pc_Model_needs 1) (i_Model_needs_1) = true := by decide +kernel
theorem fit_Model_needs_2 : sm_fit (lt_R kModel_needs) (lt_n kModel_needs) (lt_fl kModel_needs).1 (lt_fl kModel_needs).2 (lt_r kModel_needs) (lt_b kModel_needs) (pc_Model_needs) (pc_Model_needs 2) (i_Model_needs_2) = true := by decide +kernel
theorem fit_Model_needs_3 : sm_fit (lt_R kModel_needs) (lt_n kModel_needs) (lt_fl kModel_needs).1 (lt_fl kModel_needs).2 (lt_r kModel_needs) (lt_b kModel_needs) (pc_Model_needs) (pc_Model_needs 3) (i_Model_needs_3) = true := by decide +kernel
theorem fit_Model_needs_4 : sm_fit (lt_R kModel_needs) (lt_n kModel_needs) (lt_fl kModel_needs).1 (lt_fl kModel_needs).2 (lt_r kModel_needs) (lt_b kModel_needs) (pc_Model_needs) (pc_Model_needs 4) (i_Model_needs_4) = true := by decide +kernel
theorem fit_Model_needs_5 : sm_fit (lt_R kModel_needs) (lt_n kModel_needs) (lt_fl kModel_needs).1 (lt_fl kModel_needs).2 (lt_r kModel_needs) (lt_b kModel_needs) (pc_Model_needs) (pc_Model_needs 5) (i_Model_needs_5) = true := by decide +kernel
theorem fit_Model_needs_6 : sm_fit (lt_R kModel_needs) (lt_n kModel_needs) (lt_fl kModel_needs).1 (lt_fl kModel_needs).2 (lt_r kModel_needs) (lt_b kModel_needs) (pc_Model_needs) (pc_Model_needs 6) (i_Model_needs_6) = true := by decide +kernel
theorem fit_Model_needs_7 : sm_fit (lt_R kModel_needs) (lt_n kModel_needs) (lt_fl kModel_needs).1 (lt_fl kModel_needs).2 (lt_r kModel_needs) (lt_b kModel_needs) (pc_Model_needs) (pc_Model_needs 7) (i_Model_needs_7) = true := by decide +kernel
theorem fit_Model_needs_8 : sm_fit (lt_R kModel_needs) (lt_n kModel_needs) (lt_fl kModel_needs).1 (lt_fl kModel_needs).2 (lt_r kModel_needs) (lt_b kModel_needs) (pc_Model_needs) (pc_Model_needs 8) (i_Model_needs_8) = true := by decide +kernel
theorem fit_Model_needs_9 : sm_fit (lt_R kModel_needs) (lt_n kModel_needs) (lt_fl kModel_needs).1 (lt_fl kModel_needs).2 (lt_r kModel_needs) (lt_b kModel_needs) (pc_Model_needs) (pc_Model_needs 9) (i_Model_needs_9) = true := by decide +kernel
theorem fit_Model_next_0 : sm_fit (lt_R kModel_next) (lt_n kModel_next) (lt_fl kModel_next).1 (lt_fl kModel_next).2 (lt_r kModel_next) (lt_b kModel_next) (pc_Model_next) (pc_Model_next 0) (i_Model_next_0) = true := by decide +kernel
theorem fit_Model_next_1 : sm_fit (lt_R kModel_next) (lt_n kModel_next) (lt_fl kModel_next).1 (lt_fl kModel_next).2 (lt_r kModel_next) (lt_b kModel_next) (pc_Model_next) (pc_Model_next 1) (i_Model_next_1) = true := by decide +kernel
theorem fit_Model_next_2 : sm_fit (lt_R kModel_next) (lt_n kModel_next) (lt_fl kModel_next).1 (lt_fl kModel_next).2 (lt_r kModel_next) (lt_b kModel_next) (pc_Model_next) (pc_Model_next 2) (i_Model_next_2) = true := by decide +kernel
theorem fit_Model_next_3 : sm_fit (lt_R kModel_next) (lt_n kModel_next) (lt_fl kModel_next).1 (lt_fl kModel_next).2 (lt_r kModel_next) (lt_b kModel_next) (pc_Model_next) (pc_Model_next 3) (i_Model_next_3) = true := by decide +kernel
theorem fit_Model_next_4 : sm_fit (lt_R kModel_next) (lt_n kModel_next) (lt_fl kModel_next).1 (lt_fl kModel_next).2 (lt_r kModel_next) (lt_b kModel_next) (pc_Model_next) (pc_Model_next 4) (i_Model_next_4) = true := by decide +kernel
theorem fit_Model_next_5 : sm_fit (lt_R kModel_next) (lt_n kModel_next) (lt_fl kModel_next).1 (lt_fl kModel_next).2 (lt_r kModel_next) (lt_b kModel_next) (pc_Model_next) (pc_Model_next 5) (i_Model_next_5) = true := by decide +kernel
theorem fit_Model_next_6 : sm_fit (lt_R kModel_next) (lt_n kModel_next) (lt_fl kModel_next).1 (lt_fl kModel_next).2 (lt_r kModel_next) (lt_b kModel_next) (pc_Model_next) (pc_Model_next 6) (i_Model_next_6) = true := by decide +kernel
theorem fit_Model_next_7 : sm_fit (lt_R kModel_next) (lt_n kModel_next) (lt_fl kModel_next).1 (lt_fl kModel_next).2 (lt_r kModel_next) (lt_b kModel_next) (pc_Model_next) (pc_Model_next 7) (i_Model_next_7) = true := by decide +kernel
theorem fit_Model_hasOther_0 : sm_fit (lt_R kModel_hasOther) (lt_n kModel_hasOther) (lt_fl kModel_hasOther).1 (lt_fl kModel_hasOther).2 (lt_r kModel_hasOther) (lt_b kModel_hasOther) (pc_Model_hasOther) (pc_Model_hasOther 0) (i_Model_hasOther_0) = true := by decide +kernel
theorem fit_Model_hasOther_1 : sm_fit (lt_R kModel_hasOther) (lt_n kModel_hasOther) (lt_fl kModel_hasOther).1 (lt_fl kModel_hasOther).2 (lt_r kModel_hasOther) (lt_b kModel_hasOther) (pc_Model_hasOther) (pc_Model_hasOther 1) (i_Model_hasOther_1) = true := by decide +kernel
theorem fit_Model_hasOther_2 : sm_fit (lt_R kModel_hasOther) (lt_n kModel_hasOther) (lt_fl kModel_hasOther).1 (lt_fl kModel_hasOther).2 (lt_r kModel_hasOther) (lt_b kModel_hasOther) (pc_Model_hasOther) (pc_Model_hasOther 2) (i_Model_hasOther_2) = true := by decide +kernel
theorem fit_Model_hasOther_3 : sm_fit (lt_R kModel_hasOther) (lt_n kModel_hasOther) (lt_fl kModel_hasOther).1 (lt_fl kModel_hasOther).2 (lt_r kModel_hasOther) (lt_b kModel_hasOther) (pc_Model_hasOther) (pc_Model_hasOther 3) (i_Model_hasOther_3) = true := by decide +kernel
theorem fit_Model_hasOther_4 : sm_fit (lt_R kModel_hasOther) (lt_n kModel_hasOther) (lt_fl kModel_hasOther).1 (lt_fl kModel_hasOther).2 (lt_r kModel_hasOther) (lt_b kModel_hasOther) (pc_Model_hasOther) (pc_Model_hasOther 4) (i_Model_hasOther_4) = true := by decide +kernel
theorem fit_Model_isStop_0 : sm_fit (lt_R kModel_isStop) (lt_n kModel_isStop) (lt_fl kModel_isStop).1 (lt_fl kModel_isStop).2 (lt_r kModel_isStop) (lt_b kModel_isStop) (pc_Model_isStop) (pc_Model_isStop 0) (i_Model_isStop_0) = true := by decide +kernel
theorem fit_Model_isStop_1 : sm_fit (lt_R kModel_isStop) (lt_n kModel_isStop) (lt_fl kModel_isStop).1 (lt_fl kModel_isStop).2 (lt_r kModel_isStop) (lt_b kModel_isStop) (pc_Model_isStop) (pc_Model_isStop 1) (i_Model_isStop_1) = true := by decide +kernel
theorem fit_Model_isStop_2 : sm_fit (lt_R kModel_isStop) (lt_n kModel_isStop) (lt_fl kModel_isStop).1 (lt_fl kModel_isStop).2 (lt_r kModel_isStop) (lt_b kModel_isStop) (pc_Model_isStop) (pc_Model_isStop 2) (i_Model_isStop_2) = true := by decide +kernel
theorem fit_Model_isStop_3 : sm_fit (lt_R kModel_isStop) (lt_n kModel_isStop) (lt_fl kModel_isStop).1 (lt_fl kModel_isStop).2 (lt_r kModel_isStop) (lt_b kModel_isStop) (pc_Model_isStop) (pc_Model_isStop 3) (i_Model_isStop_3) = true := by decide +kernel
theorem fit_Model_isStop_4 : sm_fit (lt_R kModel_isStop) (lt_n kModel_isStop) (lt_fl kModel_isStop).1 (lt_fl kModel_isStop).2 (lt_r kModel_isStop) (lt_b kModel_isStop) (pc_Model_isStop) (pc_Model_isStop 4) (i_Model_isStop_4) = true := by decide +kernel
theorem fit_Model_isOwner_0 : sm_fit (lt_R kModel_isOwner) (lt_n kModel_isOwner) (lt_fl kModel_isOwner).1 (lt_fl kModel_isOwner).2 (lt_r kModel_isOwner) (lt_b kModel_isOwner) (pc_Model_isOwner) (pc_Model_isOwner 0) (i_Model_isOwner_0) = true := by decide +kernel
theorem fit_Model_together_0 : sm_fit (lt_R kModel_together) (lt_n kModel_together) (lt_fl kModel_together).1 (lt_fl kModel_together).2 (lt_r kModel_together) (lt_b kModel_together) (pc_Model_together) (pc_Model_together 0) (i_Model_together_0) = true := by decide +kernel
theorem fit_Model_together_1 : sm_fit (lt_R kModel_together) (lt_n kModel_together) (lt_fl kModel_together).1 (lt_fl kModel_together).2 (lt_r kModel_together) (lt_b kModel_together) (pc_Model_together) (pc_Model_together 1) (i_Model_together_1) = true := by decide +kernel
theorem fit_Model_together_2 : sm_fit (lt_R kModel_together) (lt_n kModel_together) (lt_fl kModel_together).1 (lt_fl kModel_together).2 (lt_r kModel_together) (lt_b kModel_together) (pc_Model_together) (pc_Model_together 2) (i_Model_together_2) = true := by decide +kernel
theorem fit_Model_together_3 : sm_fit (lt_R kModel_together) (lt_n kModel_together) (lt_fl kModel_together).1 (lt_fl kModel_together).2 (lt_r kModel_together) (lt_b kModel_together) (pc_Model_together) (pc_Model_together 3) (i_Model_together_3) = true := by decide +kernel
theorem fit_Model_together_4 : sm_fit (lt_R kModel_together) (lt_n kModel_together) (lt_fl kModel_together).1 (lt_fl kModel_together).2 (lt_r kModel_together) (lt_b kModel_together) (pc_Model_together) (pc_Model_together 4) (i_Model_together_4) = true := by decide +kernel
theorem fit_Model_together_5 : sm_fit (lt_R kModel_together) (lt_n kModel_together) (lt_fl kModel_together).1 (lt_fl kModel_together).2 (lt_r kModel_together) (lt_b kModel_together) (pc_Model_together) (pc_Model_together 5) (i_Model_together_5) = true := by decide +kernel
theorem fit_Model_together_6 : sm_fit (lt_R kModel_together) (lt_n kModel_together) (lt_fl kModel_together).1 (lt_fl kModel_together).2 (lt_r kModel_together) (lt_b kModel_together) (pc_Model_together) (pc_Model_together 6) (i_Model_together_6) = true := by decide +kernel
theorem fit_Model_together_7 : sm_fit (lt_R kModel_together) (lt_n kModel_together) (lt_fl kModel_together).1 (lt_fl kModel_together).2 (lt_r kModel_together) (lt_b kModel_together) (pc_Model_together) (pc_Model_together 7) (i_Model_together_7) = true := by decide +kernel
theorem fit_Model_together_8 : sm_fit (lt_R kModel_together) (lt_n kModel_together) (lt_fl kModel_together).1 (lt_fl kModel_together).2 (lt_r kModel_together) (lt_b kModel_together) (pc_Model_together) (pc_Model_together 8) (i_Model_together_8) = true := by decide +kernel
theorem fit_Model_together_9 : sm_fit (lt_R kModel_together) (lt_n kModel_together) (lt_fl kModel_together).1 (lt_fl kModel_together).2 (lt_r kModel_together) (lt_b kModel_together) (pc_Model_together) (pc_Model_together 9) (i_Model_together_9) = true := by decide +kernel
theorem fit_Model_together_10 : sm_fit (lt_R kModel_together) (lt_n kModel_together) (lt_fl kModel_together).1 (lt_fl kModel_together).2 (lt_r kModel_together) (lt_b kModel_together) (pc_Model_together) (pc_Model_together 10) (i_Model_together_10) = true := by decide +kernel
theorem fit_Model_together_11 : sm_fit (lt_R kModel_together) (lt_n kModel_together) (lt_fl kModel_together).1 (lt_fl kModel_together).2 (lt_r kModel_together) (lt_b kModel_together) (pc_Model_together) (pc_Model_together 11) (i_Model_together_11) = true := by decide +kernel
theorem fit_Model_together_12 : sm_fit (lt_R kModel_together) (lt_n kModel_together) (lt_fl kModel_together).1 (lt_fl kModel_together).2 (lt_r kModel_together) (lt_b kModel_together) (pc_Model_together) (pc_Model_together 12) (i_Model_together_12) = true := by decide +kernel
theorem fit_Model_together_13 : sm_fit (lt_R kModel_together) (lt_n kModel_together) (lt_fl kModel_together).1 (lt_fl kModel_together).2 (lt_r kModel_together) (lt_b kModel_together) (pc_Model_together) (pc_Model_together 13) (i_Model_together_13) = true := by decide +kernel
theorem fit_Model_comesTo_0 : sm_fit (lt_R kModel_comesTo) (lt_n kModel_comesTo) (lt_fl kModel_comesTo).1 (lt_fl kModel_comesTo).2 (lt_r kModel_comesTo) (lt_b kModel_comesTo) (pc_Model_comesTo) (pc_Model_comesTo 0) (i_Model_comesTo_0) = true := by decide +kernel
theorem fit_Model_comesTo_1 : sm_fit (lt_R kModel_comesTo) (lt_n kModel_comesTo) (lt_fl kModel_comesTo).1 (lt_fl kModel_comesTo).2 (lt_r kModel_comesTo) (lt_b kModel_comesTo) (pc_Model_comesTo) (pc_Model_comesTo 1) (i_Model_comesTo_1) = true := by decide +kernel
theorem fit_Model_comesTo_2 : sm_fit (lt_R kModel_comesTo) (lt_n kModel_comesTo) (lt_fl kModel_comesTo).1 (lt_fl kModel_comesTo).2 (lt_r kModel_comesTo) (lt_b kModel_comesTo) (pc_Model_comesTo) (pc_Model_comesTo 2) (i_Model_comesTo_2) = true := by decide +kernel
theorem fit_Model_comesTo_3 : sm_fit (lt_R kModel_comesTo) (lt_n kModel_comesTo) (lt_fl kModel_comesTo).1 (lt_fl kModel_comesTo).2 (lt_r kModel_comesTo) (lt_b kModel_comesTo) (pc_Model_comesTo) (pc_Model_comesTo 3) (i_Model_comesTo_3) = true := by decide +kernel
theorem fit_Model_comesTo_4 : sm_fit (lt_R kModel_comesTo) (lt_n kModel_comesTo) (lt_fl kModel_comesTo).1 (lt_fl kModel_comesTo).2 (lt_r kModel_comesTo) (lt_b kModel_comesTo) (pc_Model_comesTo) (pc_Model_comesTo 4) (i_Model_comesTo_4) = true := by decide +kernel
theorem fit_Model_comesTo_5 : sm_fit (lt_R kModel_comesTo) (lt_n kModel_comesTo) (lt_fl kModel_comesTo).1 (lt_fl kModel_comesTo).2 (lt_r kModel_comesTo) (lt_b kModel_comesTo) (pc_Model_comesTo) (pc_Model_comesTo 5) (i_Model_comesTo_5) = true := by decide +kernel
theorem fit_Model_comesTo_6 : sm_fit (lt_R kModel_comesTo) (lt_n kModel_comesTo) (lt_fl kModel_comesTo).1 (lt_fl kModel_comesTo).2 (lt_r kModel_comesTo) (lt_b kModel_comesTo) (pc_Model_comesTo) (pc_Model_comesTo 6) (i_Model_comesTo_6) = true := by decide +kernel
theorem fit_Model_comesTo_7 : sm_fit (lt_R kModel_comesTo) (lt_n kModel_comesTo) (lt_fl kModel_comesTo).1 (lt_fl kModel_comesTo).2 (lt_r kModel_comesTo) (lt_b kModel_comesTo) (pc_Model_comesTo) (pc_Model_comesTo 7) (i_Model_comesTo_7) = true := by decide +kernel
theorem fit_Model_comesTo_8 : sm_fit (lt_R kModel_comesTo) (lt_n kModel_comesTo) (lt_fl kModel_comesTo).1 (lt_fl kModel_comesTo).2 (lt_r kModel_comesTo) (lt_b kModel_comesTo) (pc_Model_comesTo) (pc_Model_comesTo 8) (i_Model_comesTo_8) = true := by decide +kernel
theorem fit_Model_comesTo_9 : sm_fit (lt_R kModel_comesTo) (lt_n kModel_comesTo) (lt_fl kModel_comesTo).1 (lt_fl kModel_comesTo).2 (lt_r kModel_comesTo) (lt_b kModel_comesTo) (pc_Model_comesTo) (pc_Model_comesTo 9) (i_Model_comesTo_9) = true := by decide +kernel
theorem fit_Model_comesTo_10 : sm_fit (lt_R kModel_comesTo) (lt_n kModel_comesTo) (lt_fl kModel_comesTo).1 (lt_fl kModel_comesTo).2 (lt_r kModel_comesTo) (lt_b kModel_comesTo) (pc_Model_comesTo) (pc_Model_comesTo 10) (i_Model_comesTo_10) = true := by decide +kernel
theorem fit_Model_comesTo_11 : sm_fit (lt_R kModel_comesTo) (lt_n kModel_comesTo) (lt_fl kModel_comesTo).1 (lt_fl kModel_comesTo).2 (lt_r kModel_comesTo) (lt_b kModel_comesTo) (pc_Model_comesTo) (pc_Model_comesTo 11) (i_Model_comesTo_11) = true := by decide +kernel
theorem fit_Model_comesTo_12 : sm_fit (lt_R kModel_comesTo) (lt_n kModel_comesTo) (lt_fl kModel_comesTo).1 (lt_fl kModel_comesTo).2 (lt_r kModel_comesTo) (lt_b kModel_comesTo) (pc_Model_comesTo) (pc_Model_comesTo 12) (i_Model_comesTo_12) = true := by decide +kernel
theorem fit_Model_comesTo_13 : sm_fit (lt_R kModel_comesTo) (lt_n kModel_comesTo) (lt_fl kModel_comesTo).1 (lt_fl kModel_comesTo).2 (lt_r kModel_comesTo) (lt_b kModel_comesTo) (pc_Model_comesTo) (pc_Model_comesTo 13) (i_Model_comesTo_13) = true := by decide +kernel
theorem fit_Model_comesTo_14 : sm_fit (lt_R kModel_comesTo) (lt_n kModel_comesTo) (lt_fl kModel_comesTo).1 (lt_fl kModel_comesTo).2 (lt_r kModel_comesTo) (lt_b kModel_comesTo) (pc_Model_comesTo) (pc_Model_comesTo 14) (i_Model_comesTo_14) = true := by decide +kernel
theorem fit_Model_moves_0 : sm_fit (lt_R kModel_moves) (lt_n kModel_moves) (lt_fl kModel_moves).1 (lt_fl kModel_moves).2 (lt_r kModel_moves) (lt_b kModel_moves) (pc_Model_moves) (pc_Model_moves 0) (i_Model_moves_0) = true := by decide +kernel
theorem fit_Model_moves_1 : sm_fit (lt_R kModel_moves) (lt_n kModel_moves) (lt_fl kModel_moves).1 (lt_fl kModel_moves).2 (lt_r kModel_moves) (lt_b kModel_moves) (pc_Model_moves) (pc_Model_moves 1) (i_Model_moves_1) = true := by decide +kernel
theorem fit_Model_moves_2 : sm_fit (lt_R kModel_moves) (lt_n kModel_moves) (lt_fl kModel_moves).1 (lt_fl kModel_moves).2 (lt_r kModel_moves) (lt_b kModel_moves) (pc_Model_moves) (pc_Model_moves 2) (i_Model_moves_2) = true := by decide +kernel
theorem fit_Model_moves_3 : sm_fit (lt_R kModel_moves) (lt_n kModel_moves) (lt_fl kModel_moves).1 (lt_fl kModel_moves).2 (lt_r kModel_moves) (lt_b kModel_moves) (pc_Model_moves) (pc_Model_moves 3) (i_Model_moves_3) = true := by decide +kernel
theorem fit_Model_moves_4 : sm_fit (lt_R kModel_moves) (lt_n kModel_moves) (lt_fl kModel_moves).1 (lt_fl kModel_moves).2 (lt_r kModel_moves) (lt_b kModel_moves) (pc_Model_moves) (pc_Model_moves 4) (i_Model_moves_4) = true := by decide +kernel
theorem fit_Model_moves_5 : sm_fit (lt_R kModel_moves) (lt_n kModel_moves) (lt_fl kModel_moves).1 (lt_fl kModel_moves).2 (lt_r kModel_moves) (lt_b kModel_moves) (pc_Model_moves) (pc_Model_moves 5) (i_Model_moves_5) = true := by decide +kernel
theorem fit_Model_moves_6 : sm_fit (lt_R kModel_moves) (lt_n kModel_moves) (lt_fl kModel_moves).1 (lt_fl kModel_moves).2 (lt_r kModel_moves) (lt_b kModel_moves) (pc_Model_moves) (pc_Model_moves 6) (i_Model_moves_6) = true := by decide +kernel
theorem fit_Model_does_0 : sm_fit (lt_R kModel_does) (lt_n kModel_does) (lt_fl kModel_does).1 (lt_fl kModel_does).2 (lt_r kModel_does) (lt_b kModel_does) (pc_Model_does) (pc_Model_does 0) (i_Model_does_0) = true := by decide +kernel
theorem fit_Model_does_1 : sm_fit (lt_R kModel_does) (lt_n kModel_does) (lt_fl kModel_does).1 (lt_fl kModel_does).2 (lt_r kModel_does) (lt_b kModel_does) (pc_Model_does) (pc_Model_does 1) (i_Model_does_1) = true := by decide +kernel
theorem fit_Model_does_2 : sm_fit (lt_R kModel_does) (lt_n kModel_does) (lt_fl kModel_does).1 (lt_fl kModel_does).2 (lt_r kModel_does) (lt_b kModel_does) (pc_Model_does) (pc_Model_does 2) (i_Model_does_2) = true := by decide +kernel
theorem fit_Model_does_3 : sm_fit (lt_R kModel_does) (lt_n kModel_does) (lt_fl kModel_does).1 (lt_fl kModel_does).2 (lt_r kModel_does) (lt_b kModel_does) (pc_Model_does) (pc_Model_does 3) (i_Model_does_3) = true := by decide +kernel
theorem fit_Model_does_4 : sm_fit (lt_R kModel_does) (lt_n kModel_does) (lt_fl kModel_does).1 (lt_fl kModel_does).2 (lt_r kModel_does) (lt_b kModel_does) (pc_Model_does) (pc_Model_does 4) (i_Model_does_4) = true := by decide +kernel
theorem fit_Model_does_5 : sm_fit (lt_R kModel_does) (lt_n kModel_does) (lt_fl kModel_does).1 (lt_fl kModel_does).2 (lt_r kModel_does) (lt_b kModel_does) (pc_Model_does) (pc_Model_does 5) (i_Model_does_5) = true := by decide +kernel
theorem fit_Model_does_6 : sm_fit (lt_R kModel_does) (lt_n kModel_does) (lt_fl kModel_does).1 (lt_fl kModel_does).2 (lt_r kModel_does) (lt_b kModel_does) (pc_Model_does) (pc_Model_does 6) (i_Model_does_6) = true := by decide +kernel
theorem fit_Model_does_7 : sm_fit (lt_R kModel_does) (lt_n kModel_does) (lt_fl kModel_does).1 (lt_fl kModel_does).2 (lt_r kModel_does) (lt_b kModel_does) (pc_Model_does) (pc_Model_does 7) (i_Model_does_7) = true := by decide +kernel
theorem fit_Model_does_8 : sm_fit (lt_R kModel_does) (lt_n kModel_does) (lt_fl kModel_does).1 (lt_fl kModel_does).2 (lt_r kModel_does) (lt_b kModel_does) (pc_Model_does) (pc_Model_does 8) (i_Model_does_8) = true := by decide +kernel
theorem fit_Model_does_9 : sm_fit (lt_R kModel_does) (lt_n kModel_does) (lt_fl kModel_does).1 (lt_fl kModel_does).2 (lt_r kModel_does) (lt_b kModel_does) (pc_Model_does) (pc_Model_does 9) (i_Model_does_9) = true := by decide +kernel
theorem fit_Model_does_10 : sm_fit (lt_R kModel_does) (lt_n kModel_does) (lt_fl kModel_does).1 (lt_fl kModel_does).2 (lt_r kModel_does) (lt_b kModel_does) (pc_Model_does) (pc_Model_does 10) (i_Model_does_10) = true := by decide +kernel
theorem fit_Model_does_11 : sm_fit (lt_R kModel_does) (lt_n kModel_does) (lt_fl kModel_does).1 (lt_fl kModel_does).2 (lt_r kModel_does) (lt_b kModel_does) (pc_Model_does) (pc_Model_does 11) (i_Model_does_11) = true := by decide +kernel
theorem fit_Model_does_12 : sm_fit (lt_R kModel_does) (lt_n kModel_does) (lt_fl kModel_does).1 (lt_fl kModel_does).2 (lt_r kModel_does) (lt_b kModel_does) (pc_Model_does) (pc_Model_does 12) (i_Model_does_12) = true := by decide +kernel
theorem fit_Model_does_13 : sm_fit (lt_R kModel_does) (lt_n kModel_does) (lt_fl kModel_does).1 (lt_fl kModel_does).2 (lt_r kModel_does) (lt_b kModel_does) (pc_Model_does) (pc_Model_does 13) (i_Model_does_13) = true := by decide +kernel
theorem fit_Model_does_14 : sm_fit (lt_R kModel_does) (lt_n kModel_does) (lt_fl kModel_does).1 (lt_fl kModel_does).2 (lt_r kModel_does) (lt_b kModel_does) (pc_Model_does) (pc_Model_does 14) (i_Model_does_14) = true := by decide +kernel
theorem fit_Model_does_15 : sm_fit (lt_R kModel_does) (lt_n kModel_does) (lt_fl kModel_does).1 (lt_fl kModel_does).2 (lt_r kModel_does) (lt_b kModel_does) (pc_Model_does) (pc_Model_does 15) (i_Model_does_15) = true := by decide +kernel
theorem fit_Model_does_16 : sm_fit (lt_R kModel_does) (lt_n kModel_does) (lt_fl kModel_does).1 (lt_fl kModel_does).2 (lt_r kModel_does) (lt_b kModel_does) (pc_Model_does) (pc_Model_does 16) (i_Model_does_16) = true := by decide +kernel
theorem fit_Model_does_17 : sm_fit (lt_R kModel_does) (lt_n kModel_does) (lt_fl kModel_does).1 (lt_fl kModel_does).2 (lt_r kModel_does) (lt_b kModel_does) (pc_Model_does) (pc_Model_does 17) (i_Model_does_17) = true := by decide +kernel
theorem fit_Model_does_18 : sm_fit (lt_R kModel_does) (lt_n kModel_does) (lt_fl kModel_does).1 (lt_fl kModel_does).2 (lt_r kModel_does) (lt_b kModel_does) (pc_Model_does) (pc_Model_does 18) (i_Model_does_18) = true := by decide +kernel
theorem fit_Model_does_19 : sm_fit (lt_R kModel_does) (lt_n kModel_does) (lt_fl kModel_does).1 (lt_fl kModel_does).2 (lt_r kModel_does) (lt_b kModel_does) (pc_Model_does) (pc_Model_does 19) (i_Model_does_19) = true := by decide +kernel
theorem fit_Model_does_20 : sm_fit (lt_R kModel_does) (lt_n kModel_does) (lt_fl kModel_does).1 (lt_fl kModel_does).2 (lt_r kModel_does) (lt_b kModel_does) (pc_Model_does) (pc_Model_does 20) (i_Model_does_20) = true := by decide +kernel
theorem fit_Model_does_21 : sm_fit (lt_R kModel_does) (lt_n kModel_does) (lt_fl kModel_does).1 (lt_fl kModel_does).2 (lt_r kModel_does) (lt_b kModel_does) (pc_Model_does) (pc_Model_does 21) (i_Model_does_21) = true := by decide +kernel
theorem fit_Model_does_22 : sm_fit (lt_R kModel_does) (lt_n kModel_does) (lt_fl kModel_does).1 (lt_fl kModel_does).2 (lt_r kModel_does) (lt_b kModel_does) (pc_Model_does) (pc_Model_does 22) (i_Model_does_22) = true := by decide +kernel
theorem fit_Model_does_23 : sm_fit (lt_R kModel_does) (lt_n kModel_does) (lt_fl kModel_does).1 (lt_fl kModel_does).2 (lt_r kModel_does) (lt_b kModel_does) (pc_Model_does) (pc_Model_does 23) (i_Model_does_23) = true := by decide +kernel
theorem fit_Model_does_24 : sm_fit (lt_R kModel_does) (lt_n kModel_does) (lt_fl kModel_does).1 (lt_fl kModel_does).2 (lt_r kModel_does) (lt_b kModel_does) (pc_Model_does) (pc_Model_does 24) (i_Model_does_24) = true := by decide +kernel
theorem fit_Model_does_25 : sm_fit (lt_R kModel_does) (lt_n kModel_does) (lt_fl kModel_does).1 (lt_fl kModel_does).2 (lt_r kModel_does) (lt_b kModel_does) (pc_Model_does) (pc_Model_does 25) (i_Model_does_25) = true := by decide +kernel
theorem fit_Model_does_26 : sm_fit (lt_R kModel_does) (lt_n kModel_does) (lt_fl kModel_does).1 (lt_fl kModel_does).2 (lt_r kModel_does) (lt_b kModel_does) (pc_Model_does) (pc_Model_does 26) (i_Model_does_26) = true := by decide +kernel
theorem fit_Model_does_27 : sm_fit (lt_R kModel_does) (lt_n kModel_does) (lt_fl kModel_does).1 (lt_fl kModel_does).2 (lt_r kModel_does) (lt_b kModel_does) (pc_Model_does) (pc_Model_does 27) (i_Model_does_27) = true := by decide +kernel
theorem fit_Model_does_28 : sm_fit (lt_R kModel_does) (lt_n kModel_does) (lt_fl kModel_does).1 (lt_fl kModel_does).2 (lt_r kModel_does) (lt_b kModel_does) (pc_Model_does) (pc_Model_does 28) (i_Model_does_28) = true := by decide +kernel
theorem fit_Model_does_29 : sm_fit (lt_R kModel_does) (lt_n kModel_does) (lt_fl kModel_does).1 (lt_fl kModel_does).2 (lt_r kModel_does) (lt_b kModel_does) (pc_Model_does) (pc_Model_does 29) (i_Model_does_29) = true := by decide +kernel
theorem fit_Model_does_30 : sm_fit (lt_R kModel_does) (lt_n kModel_does) (lt_fl kModel_does).1 (lt_fl kModel_does).2 (lt_r kModel_does) (lt_b kModel_does) (pc_Model_does) (pc_Model_does 30) (i_Model_does_30) = true := by decide +kernel
theorem fit_Model_does_31 : sm_fit (lt_R kModel_does) (lt_n kModel_does) (lt_fl kModel_does).1 (lt_fl kModel_does).2 (lt_r kModel_does) (lt_b kModel_does) (pc_Model_does) (pc_Model_does 31) (i_Model_does_31) = true := by decide +kernel
theorem fit_Model_does_32 : sm_fit (lt_R kModel_does) (lt_n kModel_does) (lt_fl kModel_does).1 (lt_fl kModel_does).2 (lt_r kModel_does) (lt_b kModel_does) (pc_Model_does) (pc_Model_does 32) (i_Model_does_32) = true := by decide +kernel
theorem fit_Model_does_33 : sm_fit (lt_R kModel_does) (lt_n kModel_does) (lt_fl kModel_does).1 (lt_fl kModel_does).2 (lt_r kModel_does) (lt_b kModel_does) (pc_Model_does) (pc_Model_does 33) (i_Model_does_33) = true := by decide +kernel
theorem fit_Model_does_34 : sm_fit (lt_R kModel_does) (lt_n kModel_does) (lt_fl kModel_does).1 (lt_fl kModel_does).2 (lt_r kModel_does) (lt_b kModel_does) (pc_Model_does) (pc_Model_does 34) (i_Model_does_34) = true := by decide +kernel
theorem fit_Model_does_35 : sm_fit (lt_R kModel_does) (lt_n kModel_does) (lt_fl kModel_does).1 (lt_fl kModel_does).2 (lt_r kModel_does) (lt_b kModel_does) (pc_Model_does) (pc_Model_does 35) (i_Model_does_35) = true := by decide +kernel
theorem fit_Model_does_36 : sm_fit (lt_R kModel_does) (lt_n kModel_does) (lt_fl kModel_does).1 (lt_fl kModel_does).2 (lt_r kModel_does) (lt_b kModel_does) (pc_Model_does) (pc_Model_does 36) (i_Model_does_36) = true := by decide +kernel
theorem fit_Model_does_37 : sm_fit (lt_R kModel_does) (lt_n kModel_does) (lt_fl kModel_does).1 (lt_fl kModel_does).2 (lt_r kModel_does) (lt_b kModel_does) (pc_Model_does) (pc_Model_does 37) (i_Model_does_37) = true := by decide +kernel
theorem fit_Model_does_38 : sm_fit (lt_R kModel_does) (lt_n kModel_does) (lt_fl kModel_does).1 (lt_fl kModel_does).2 (lt_r kModel_does) (lt_b kModel_does) (pc_Model_does) (pc_Model_does 38) (i_Model_does_38) = true := by decide +kernel
theorem fit_Model_goesOn_0 : sm_fit (lt_R kModel_goesOn) (lt_n kModel_goesOn) (lt_fl kModel_goesOn).1 (lt_fl kModel_goesOn).2 (lt_r kModel_goesOn) (lt_b kModel_goesOn) (pc_Model_goesOn) (pc_Model_goesOn 0) (i_Model_goesOn_0) = true := by decide +kernel
theorem fit_Model_goesOn_1 : sm_fit (lt_R kModel_goesOn) (lt_n kModel_goesOn) (lt_fl kModel_goesOn).1 (lt_fl kModel_goesOn).2 (lt_r kModel_goesOn) (lt_b kModel_goesOn) (pc_Model_goesOn) (pc_Model_goesOn 1) (i_Model_goesOn_1) = true := by decide +kernel
theorem fit_Model_goesOn_2 : sm_fit (lt_R kModel_goesOn) (lt_n kModel_goesOn) (lt_fl kModel_goesOn).1 (lt_fl kModel_goesOn).2 (lt_r kModel_goesOn) (lt_b kModel_goesOn) (pc_Model_goesOn) (pc_Model_goesOn 2) (i_Model_goesOn_2) = true := by decide +kernel
theorem fit_Model_goesOn_3 : sm_fit (lt_R kModel_goesOn) (lt_n kModel_goesOn) (lt_fl kModel_goesOn).1 (lt_fl kModel_goesOn).2 (lt_r kModel_goesOn) (lt_b kModel_goesOn) (pc_Model_goesOn) (pc_Model_goesOn 3) (i_Model_goesOn_3) = true := by decide +kernel
theorem fit_Model_goesOn_4 : sm_fit (lt_R kModel_goesOn) (lt_n kModel_goesOn) (lt_fl kModel_goesOn).1 (lt_fl kModel_goesOn).2 (lt_r kModel_goesOn) (lt_b kModel_goesOn) (pc_Model_goesOn) (pc_Model_goesOn 4) (i_Model_goesOn_4) = true := by decide +kernel
theorem fit_Model_goesOn_5 : sm_fit (lt_R kModel_goesOn) (lt_n kModel_goesOn) (lt_fl kModel_goesOn).1 (lt_fl kModel_goesOn).2 (lt_r kModel_goesOn) (lt_b kModel_goesOn) (pc_Model_goesOn) (pc_Model_goesOn 5) (i_Model_goesOn_5) = true := by decide +kernel
theorem fit_Model_goesOn_6 : sm_fit (lt_R kModel_goesOn) (lt_n kModel_goesOn) (lt_fl kModel_goesOn).1 (lt_fl kModel_goesOn).2 (lt_r kModel_goesOn) (lt_b kModel_goesOn) (pc_Model_goesOn) (pc_Model_goesOn 6) (i_Model_goesOn_6) = true := by decide +kernel
theorem fit_Model_livesBehind_0 : sm_fit (lt_R kModel_livesBehind) (lt_n kModel_livesBehind) (lt_fl kModel_livesBehind).1 (lt_fl kModel_livesBehind).2 (lt_r kModel_livesBehind) (lt_b kModel_livesBehind) (pc_Model_livesBehind) (pc_Model_livesBehind 0) (i_Model_livesBehind_0) = true := by decide +kernel
theorem fit_Model_livesBehind_1 : sm_fit (lt_R kModel_livesBehind) (lt_n kModel_livesBehind) (lt_fl kModel_livesBehind).1 (lt_fl kModel_livesBehind).2 (lt_r kModel_livesBehind) (lt_b kModel_livesBehind) (pc_Model_livesBehind) (pc_Model_livesBehind 1) (i_Model_livesBehind_1) = true := by decide +kernel
theorem fit_Model_livesBehind_2 : sm_fit (lt_R kModel_livesBehind) (lt_n kModel_livesBehind) (lt_fl kModel_livesBehind).1 (lt_fl kModel_livesBehind).2 (lt_r kModel_livesBehind) (lt_b kModel_livesBehind) (pc_Model_livesBehind) (pc_Model_livesBehind 2) (i_Model_livesBehind_2) = true := by decide +kernel
theorem fit_Model_livesBehind_3 : sm_fit (lt_R kModel_livesBehind) (lt_n kModel_livesBehind) (lt_fl kModel_livesBehind).1 (lt_fl kModel_livesBehind).2 (lt_r kModel_livesBehind) (lt_b kModel_livesBehind) (pc_Model_livesBehind) (pc_Model_livesBehind 3) (i_Model_livesBehind_3) = true := by decide +kernel
theorem fit_Model_livesBehind_4 : sm_fit (lt_R kModel_livesBehind) (lt_n kModel_livesBehind) (lt_fl kModel_livesBehind).1 (lt_fl kModel_livesBehind).2 (lt_r kModel_livesBehind) (lt_b kModel_livesBehind) (pc_Model_livesBehind) (pc_Model_livesBehind 4) (i_Model_livesBehind_4) = true := by decide +kernel
theorem fit_Model_livesBehind_5 : sm_fit (lt_R kModel_livesBehind) (lt_n kModel_livesBehind) (lt_fl kModel_livesBehind).1 (lt_fl kModel_livesBehind).2 (lt_r kModel_livesBehind) (lt_b kModel_livesBehind) (pc_Model_livesBehind) (pc_Model_livesBehind 5) (i_Model_livesBehind_5) = true := by decide +kernel
theorem fit_Model_findsLiving_0 : sm_fit (lt_R kModel_findsLiving) (lt_n kModel_findsLiving) (lt_fl kModel_findsLiving).1 (lt_fl kModel_findsLiving).2 (lt_r kModel_findsLiving) (lt_b kModel_findsLiving) (pc_Model_findsLiving) (pc_Model_findsLiving 0) (i_Model_findsLiving_0) = true := by decide +kernel
theorem fit_Model_findsLiving_1 : sm_fit (lt_R kModel_findsLiving) (lt_n kModel_findsLiving) (lt_fl kModel_findsLiving).1 (lt_fl kModel_findsLiving).2 (lt_r kModel_findsLiving) (lt_b kModel_findsLiving) (pc_Model_findsLiving) (pc_Model_findsLiving 1) (i_Model_findsLiving_1) = true := by decide +kernel
theorem fit_Model_findsLiving_2 : sm_fit (lt_R kModel_findsLiving) (lt_n kModel_findsLiving) (lt_fl kModel_findsLiving).1 (lt_fl kModel_findsLiving).2 (lt_r kModel_findsLiving) (lt_b kModel_findsLiving) (pc_Model_findsLiving) (pc_Model_findsLiving 2) (i_Model_findsLiving_2) = true := by decide +kernel
theorem fit_Model_findsLiving_3 : sm_fit (lt_R kModel_findsLiving) (lt_n kModel_findsLiving) (lt_fl kModel_findsLiving).1 (lt_fl kModel_findsLiving).2 (lt_r kModel_findsLiving) (lt_b kModel_findsLiving) (pc_Model_findsLiving) (pc_Model_findsLiving 3) (i_Model_findsLiving_3) = true := by decide +kernel
theorem fit_Model_findsLiving_4 : sm_fit (lt_R kModel_findsLiving) (lt_n kModel_findsLiving) (lt_fl kModel_findsLiving).1 (lt_fl kModel_findsLiving).2 (lt_r kModel_findsLiving) (lt_b kModel_findsLiving) (pc_Model_findsLiving) (pc_Model_findsLiving 4) (i_Model_findsLiving_4) = true := by decide +kernel
theorem fit_Model_findsLiving_5 : sm_fit (lt_R kModel_findsLiving) (lt_n kModel_findsLiving) (lt_fl kModel_findsLiving).1 (lt_fl kModel_findsLiving).2 (lt_r kModel_findsLiving) (lt_b kModel_findsLiving) (pc_Model_findsLiving) (pc_Model_findsLiving 5) (i_Model_findsLiving_5) = true := by decide +kernel
theorem fit_Model_findsLiving_6 : sm_fit (lt_R kModel_findsLiving) (lt_n kModel_findsLiving) (lt_fl kModel_findsLiving).1 (lt_fl kModel_findsLiving).2 (lt_r kModel_findsLiving) (lt_b kModel_findsLiving) (pc_Model_findsLiving) (pc_Model_findsLiving 6) (i_Model_findsLiving_6) = true := by decide +kernel
theorem fit_Model_findsLiving_7 : sm_fit (lt_R kModel_findsLiving) (lt_n kModel_findsLiving) (lt_fl kModel_findsLiving).1 (lt_fl kModel_findsLiving).2 (lt_r kModel_findsLiving) (lt_b kModel_findsLiving) (pc_Model_findsLiving) (pc_Model_findsLiving 7) (i_Model_findsLiving_7) = true := by decide +kernel
theorem fit_Model_findsLiving_8 : sm_fit (lt_R kModel_findsLiving) (lt_n kModel_findsLiving) (lt_fl kModel_findsLiving).1 (lt_fl kModel_findsLiving).2 (lt_r kModel_findsLiving) (lt_b kModel_findsLiving) (pc_Model_findsLiving) (pc_Model_findsLiving 8) (i_Model_findsLiving_8) = true := by decide +kernel
theorem fit_Model_findsLiving_9 : sm_fit (lt_R kModel_findsLiving) (lt_n kModel_findsLiving) (lt_fl kModel_findsLiving).1 (lt_fl kModel_findsLiving).2 (lt_r kModel_findsLiving) (lt_b kModel_findsLiving) (pc_Model_findsLiving) (pc_Model_findsLiving 9) (i_Model_findsLiving_9) = true := by decide +kernel
theorem fit_Model_findsLiving_10 : sm_fit (lt_R kModel_findsLiving) (lt_n kModel_findsLiving) (lt_fl kModel_findsLiving).1 (lt_fl kModel_findsLiving).2 (lt_r kModel_findsLiving) (lt_b kModel_findsLiving) (pc_Model_findsLiving) (pc_Model_findsLiving 10) (i_Model_findsLiving_10) = true := by decide +kernel
theorem fit_Model_findsLiving_11 : sm_fit (lt_R kModel_findsLiving) (lt_n kModel_findsLiving) (lt_fl kModel_findsLiving).1 (lt_fl kModel_findsLiving).2 (lt_r kModel_findsLiving) (lt_b kModel_findsLiving) (pc_Model_findsLiving) (pc_Model_findsLiving 11) (i_Model_findsLiving_11) = true := by decide +kernel
theorem fit_Model_findsLiving_12 : sm_fit (lt_R kModel_findsLiving) (lt_n kModel_findsLiving) (lt_fl kModel_findsLiving).1 (lt_fl kModel_findsLiving).2 (lt_r kModel_findsLiving) (lt_b kModel_findsLiving) (pc_Model_findsLiving) (pc_Model_findsLiving 12) (i_Model_findsLiving_12) = true := by decide +kernel
theorem fit_Model_findsLiving_13 : sm_fit (lt_R kModel_findsLiving) (lt_n kModel_findsLiving) (lt_fl kModel_findsLiving).1 (lt_fl kModel_findsLiving).2 (lt_r kModel_findsLiving) (lt_b kModel_findsLiving) (pc_Model_findsLiving) (pc_Model_findsLiving 13) (i_Model_findsLiving_13) = true := by decide +kernel
theorem fit_Model_findsLiving_14 : sm_fit (lt_R kModel_findsLiving) (lt_n kModel_findsLiving) (lt_fl kModel_findsLiving).1 (lt_fl kModel_findsLiving).2 (lt_r kModel_findsLiving) (lt_b kModel_findsLiving) (pc_Model_findsLiving) (pc_Model_findsLiving 14) (i_Model_findsLiving_14) = true := by decide +kernel
theorem fit_Model_findsLiving_15 : sm_fit (lt_R kModel_findsLiving) (lt_n kModel_findsLiving) (lt_fl kModel_findsLiving).1 (lt_fl kModel_findsLiving).2 (lt_r kModel_findsLiving) (lt_b kModel_findsLiving) (pc_Model_findsLiving) (pc_Model_findsLiving 15) (i_Model_findsLiving_15) = true := by decide +kernel
theorem fit_Model_findsLiving_16 : sm_fit (lt_R kModel_findsLiving) (lt_n kModel_findsLiving) (lt_fl kModel_findsLiving).1 (lt_fl kModel_findsLiving).2 (lt_r kModel_findsLiving) (lt_b kModel_findsLiving) (pc_Model_findsLiving) (pc_Model_findsLiving 16) (i_Model_findsLiving_16) = true := by decide +kernel
theorem fit_Model_findsLiving_17 : sm_fit (lt_R kModel_findsLiving) (lt_n kModel_findsLiving) (lt_fl kModel_findsLiving).1 (lt_fl kModel_findsLiving).2 (lt_r kModel_findsLiving) (lt_b kModel_findsLiving) (pc_Model_findsLiving) (pc_Model_findsLiving 17) (i_Model_findsLiving_17) = true := by decide +kernel
theorem fit_Model_findsLiving_18 : sm_fit (lt_R kModel_findsLiving) (lt_n kModel_findsLiving) (lt_fl kModel_findsLiving).1 (lt_fl kModel_findsLiving).2 (lt_r kModel_findsLiving) (lt_b kModel_findsLiving) (pc_Model_findsLiving) (pc_Model_findsLiving 18) (i_Model_findsLiving_18) = true := by decide +kernel
theorem fit_Model_findsLiving_19 : sm_fit (lt_R kModel_findsLiving) (lt_n kModel_findsLiving) (lt_fl kModel_findsLiving).1 (lt_fl kModel_findsLiving).2 (lt_r kModel_findsLiving) (lt_b kModel_findsLiving) (pc_Model_findsLiving) (pc_Model_findsLiving 19) (i_Model_findsLiving_19) = true := by decide +kernel
theorem fit_Model_finds_0 : sm_fit (lt_R kModel_finds) (lt_n kModel_finds) (lt_fl kModel_finds).1 (lt_fl kModel_finds).2 (lt_r kModel_finds) (lt_b kModel_finds) (pc_Model_finds) (pc_Model_finds 0) (i_Model_finds_0) = true := by decide +kernel
theorem fit_Model_finds_1 : sm_fit (lt_R kModel_finds) (lt_n kModel_finds) (lt_fl kModel_finds).1 (lt_fl kModel_finds).2 (lt_r kModel_finds) (lt_b kModel_finds) (pc_Model_finds) (pc_Model_finds 1) (i_Model_finds_1) = true := by decide +kernel
theorem fit_Model_finds_2 : sm_fit (lt_R kModel_finds) (lt_n kModel_finds) (lt_fl kModel_finds).1 (lt_fl kModel_finds).2 (lt_r kModel_finds) (lt_b kModel_finds) (pc_Model_finds) (pc_Model_finds 2) (i_Model_finds_2) = true := by decide +kernel
theorem fit_Model_finds_3 : sm_fit (lt_R kModel_finds) (lt_n kModel_finds) (lt_fl kModel_finds).1 (lt_fl kModel_finds).2 (lt_r kModel_finds) (lt_b kModel_finds) (pc_Model_finds) (pc_Model_finds 3) (i_Model_finds_3) = true := by decide +kernel
theorem fit_Model_finds_4 : sm_fit (lt_R kModel_finds) (lt_n kModel_finds) (lt_fl kModel_finds).1 (lt_fl kModel_finds).2 (lt_r kModel_finds) (lt_b kModel_finds) (pc_Model_finds) (pc_Model_finds 4) (i_Model_finds_4) = true := by decide +kernel
theorem fit_Model_finds_5 : sm_fit (lt_R kModel_finds) (lt_n kModel_finds) (lt_fl kModel_finds).1 (lt_fl kModel_finds).2 (lt_r kModel_finds) (lt_b kModel_finds) (pc_Model_finds) (pc_Model_finds 5) (i_Model_finds_5) = true := by decide +kernel
theorem fit_Model_finds_6 : sm_fit (lt_R kModel_finds) (lt_n kModel_finds) (lt_fl kModel_finds).1 (lt_fl kModel_finds).2 (lt_r kModel_finds) (lt_b kModel_finds) (pc_Model_finds) (pc_Model_finds 6) (i_Model_finds_6) = true := by decide +kernel
theorem fit_Model_finds_7 : sm_fit (lt_R kModel_finds) (lt_n kModel_finds) (lt_fl kModel_finds).1 (lt_fl kModel_finds).2 (lt_r kModel_finds) (lt_b kModel_finds) (pc_Model_finds) (pc_Model_finds 7) (i_Model_finds_7) = true := by decide +kernel
theorem fit_Model_finds_8 : sm_fit (lt_R kModel_finds) (lt_n kModel_finds) (lt_fl kModel_finds).1 (lt_fl kModel_finds).2 (lt_r kModel_finds) (lt_b kModel_finds) (pc_Model_finds) (pc_Model_finds 8) (i_Model_finds_8) = true := by decide +kernel
theorem fit_Model_finds_9 : sm_fit (lt_R kModel_finds) (lt_n kModel_finds) (lt_fl kModel_finds).1 (lt_fl kModel_finds).2 (lt_r kModel_finds) (lt_b kModel_finds) (pc_Model_finds) (pc_Model_finds 9) (i_Model_finds_9) = true := by decide +kernel
theorem fit_Model_finds_10 : sm_fit (lt_R kModel_finds) (lt_n kModel_finds) (lt_fl kModel_finds).1 (lt_fl kModel_finds).2 (lt_r kModel_finds) (lt_b kModel_finds) (pc_Model_finds) (pc_Model_finds 10) (i_Model_finds_10) = true := by decide +kernel
theorem fit_Model_finds_11 : sm_fit (lt_R kModel_finds) (lt_n kModel_finds) (lt_fl kModel_finds).1 (lt_fl kModel_finds).2 (lt_r kModel_finds) (lt_b kModel_finds) (pc_Model_finds) (pc_Model_finds 11) (i_Model_finds_11) = true := by decide +kernel
theorem fit_Model_finds_12 : sm_fit (lt_R kModel_finds) (lt_n kModel_finds) (lt_fl kModel_finds).1 (lt_fl kModel_finds).2 (lt_r kModel_finds) (lt_b kModel_finds) (pc_Model_finds) (pc_Model_finds 12) (i_Model_finds_12) = true := by decide +kernel
theorem fit_Model_finds_13 : sm_fit (lt_R kModel_finds) (lt_n kModel_finds) (lt_fl kModel_finds).1 (lt_fl kModel_finds).2 (lt_r kModel_finds) (lt_b kModel_finds) (pc_Model_finds) (pc_Model_finds 13) (i_Model_finds_13) = true := by decide +kernel
theorem fit_Model_finds_14 : sm_fit (lt_R kModel_finds) (lt_n kModel_finds) (lt_fl kModel_finds).1 (lt_fl kModel_finds).2 (lt_r kModel_finds) (lt_b kModel_finds) (pc_Model_finds) (pc_Model_finds 14) (i_Model_finds_14) = true := by decide +kernel
theorem fit_Model_finds_15 : sm_fit (lt_R kModel_finds) (lt_n kModel_finds) (lt_fl kModel_finds).1 (lt_fl kModel_finds).2 (lt_r kModel_finds) (lt_b kModel_finds) (pc_Model_finds) (pc_Model_finds 15) (i_Model_finds_15) = true := by decide +kernel
theorem fit_Model_finds_16 : sm_fit (lt_R kModel_finds) (lt_n kModel_finds) (lt_fl kModel_finds).1 (lt_fl kModel_finds).2 (lt_r kModel_finds) (lt_b kModel_finds) (pc_Model_finds) (pc_Model_finds 16) (i_Model_finds_16) = true := by decide +kernel
theorem fit_Model_finds_17 : sm_fit (lt_R kModel_finds) (lt_n kModel_finds) (lt_fl kModel_finds).1 (lt_fl kModel_finds).2 (lt_r kModel_finds) (lt_b kModel_finds) (pc_Model_finds) (pc_Model_finds 17) (i_Model_finds_17) = true := by decide +kernel
theorem fit_Model_finds_18 : sm_fit (lt_R kModel_finds) (lt_n kModel_finds) (lt_fl kModel_finds).1 (lt_fl kModel_finds).2 (lt_r kModel_finds) (lt_b kModel_finds) (pc_Model_finds) (pc_Model_finds 18) (i_Model_finds_18) = true := by decide +kernel
theorem fit_Model_finds_19 : sm_fit (lt_R kModel_finds) (lt_n kModel_finds) (lt_fl kModel_finds).1 (lt_fl kModel_finds).2 (lt_r kModel_finds) (lt_b kModel_finds) (pc_Model_finds) (pc_Model_finds 19) (i_Model_finds_19) = true := by decide +kernel
theorem fit_Model_finds_20 : sm_fit (lt_R kModel_finds) (lt_n kModel_finds) (lt_fl kModel_finds).1 (lt_fl kModel_finds).2 (lt_r kModel_finds) (lt_b kModel_finds) (pc_Model_finds) (pc_Model_finds 20) (i_Model_finds_20) = true := by decide +kernel
theorem fit_Model_findsAll_0 : sm_fit (lt_R kModel_findsAll) (lt_n kModel_findsAll) (lt_fl kModel_findsAll).1 (lt_fl kModel_findsAll).2 (lt_r kModel_findsAll) (lt_b kModel_findsAll) (pc_Model_findsAll) (pc_Model_findsAll 0) (i_Model_findsAll_0) = true := by decide +kernel
theorem fit_Model_findsAll_1 : sm_fit (lt_R kModel_findsAll) (lt_n kModel_findsAll) (lt_fl kModel_findsAll).1 (lt_fl kModel_findsAll).2 (lt_r kModel_findsAll) (lt_b kModel_findsAll) (pc_Model_findsAll) (pc_Model_findsAll 1) (i_Model_findsAll_1) = true := by decide +kernel
theorem fit_Model_findsAll_2 : sm_fit (lt_R kModel_findsAll) (lt_n kModel_findsAll) (lt_fl kModel_findsAll).1 (lt_fl kModel_findsAll).2 (lt_r kModel_findsAll) (lt_b kModel_findsAll) (pc_Model_findsAll) (pc_Model_findsAll 2) (i_Model_findsAll_2) = true := by decide +kernel
theorem fit_Model_findsAll_3 : sm_fit (lt_R kModel_findsAll) (lt_n kModel_findsAll) (lt_fl kModel_findsAll).1 (lt_fl kModel_findsAll).2 (lt_r kModel_findsAll) (lt_b kModel_findsAll) (pc_Model_findsAll) (pc_Model_findsAll 3) (i_Model_findsAll_3) = true := by decide +kernel
theorem fit_Model_findsAll_4 : sm_fit (lt_R kModel_findsAll) (lt_n kModel_findsAll) (lt_fl kModel_findsAll).1 (lt_fl kModel_findsAll).2 (lt_r kModel_findsAll) (lt_b kModel_findsAll) (pc_Model_findsAll) (pc_Model_findsAll 4) (i_Model_findsAll_4) = true := by decide +kernel
theorem fit_Model_foundAt_0 : sm_fit (lt_R kModel_foundAt) (lt_n kModel_foundAt) (lt_fl kModel_foundAt).1 (lt_fl kModel_foundAt).2 (lt_r kModel_foundAt) (lt_b kModel_foundAt) (pc_Model_foundAt) (pc_Model_foundAt 0) (i_Model_foundAt_0) = true := by decide +kernel
theorem fit_Model_borrowerOf_0 : sm_fit (lt_R kModel_borrowerOf) (lt_n kModel_borrowerOf) (lt_fl kModel_borrowerOf).1 (lt_fl kModel_borrowerOf).2 (lt_r kModel_borrowerOf) (lt_b kModel_borrowerOf) (pc_Model_borrowerOf) (pc_Model_borrowerOf 0) (i_Model_borrowerOf_0) = true := by decide +kernel
theorem fit_Model_borrowerOf_1 : sm_fit (lt_R kModel_borrowerOf) (lt_n kModel_borrowerOf) (lt_fl kModel_borrowerOf).1 (lt_fl kModel_borrowerOf).2 (lt_r kModel_borrowerOf) (lt_b kModel_borrowerOf) (pc_Model_borrowerOf) (pc_Model_borrowerOf 1) (i_Model_borrowerOf_1) = true := by decide +kernel
theorem fit_Model_borrowerOf_2 : sm_fit (lt_R kModel_borrowerOf) (lt_n kModel_borrowerOf) (lt_fl kModel_borrowerOf).1 (lt_fl kModel_borrowerOf).2 (lt_r kModel_borrowerOf) (lt_b kModel_borrowerOf) (pc_Model_borrowerOf) (pc_Model_borrowerOf 2) (i_Model_borrowerOf_2) = true := by decide +kernel
theorem fit_Model_borrowerOf_3 : sm_fit (lt_R kModel_borrowerOf) (lt_n kModel_borrowerOf) (lt_fl kModel_borrowerOf).1 (lt_fl kModel_borrowerOf).2 (lt_r kModel_borrowerOf) (lt_b kModel_borrowerOf) (pc_Model_borrowerOf) (pc_Model_borrowerOf 3) (i_Model_borrowerOf_3) = true := by decide +kernel
theorem fit_Model_borrowerOf_4 : sm_fit (lt_R kModel_borrowerOf) (lt_n kModel_borrowerOf) (lt_fl kModel_borrowerOf).1 (lt_fl kModel_borrowerOf).2 (lt_r kModel_borrowerOf) (lt_b kModel_borrowerOf) (pc_Model_borrowerOf) (pc_Model_borrowerOf 4) (i_Model_borrowerOf_4) = true := by decide +kernel
theorem fit_Model_borrowerOf_5 : sm_fit (lt_R kModel_borrowerOf) (lt_n kModel_borrowerOf) (lt_fl kModel_borrowerOf).1 (lt_fl kModel_borrowerOf).2 (lt_r kModel_borrowerOf) (lt_b kModel_borrowerOf) (pc_Model_borrowerOf) (pc_Model_borrowerOf 5) (i_Model_borrowerOf_5) = true := by decide +kernel
theorem fit_Model_borrowerOf_6 : sm_fit (lt_R kModel_borrowerOf) (lt_n kModel_borrowerOf) (lt_fl kModel_borrowerOf).1 (lt_fl kModel_borrowerOf).2 (lt_r kModel_borrowerOf) (lt_b kModel_borrowerOf) (pc_Model_borrowerOf) (pc_Model_borrowerOf 6) (i_Model_borrowerOf_6) = true := by decide +kernel
theorem fit_Model_borrowerOf_7 : sm_fit (lt_R kModel_borrowerOf) (lt_n kModel_borrowerOf) (lt_fl kModel_borrowerOf).1 (lt_fl kModel_borrowerOf).2 (lt_r kModel_borrowerOf) (lt_b kModel_borrowerOf) (pc_Model_borrowerOf) (pc_Model_borrowerOf 7) (i_Model_borrowerOf_7) = true := by decide +kernel
theorem fit_Model_borrowerOf_8 : sm_fit (lt_R kModel_borrowerOf) (lt_n kModel_borrowerOf) (lt_fl kModel_borrowerOf).1 (lt_fl kModel_borrowerOf).2 (lt_r kModel_borrowerOf) (lt_b kModel_borrowerOf) (pc_Model_borrowerOf) (pc_Model_borrowerOf 8) (i_Model_borrowerOf_8) = true := by decide +kernel
theorem fit_Model_borrowerOf_9 : sm_fit (lt_R kModel_borrowerOf) (lt_n kModel_borrowerOf) (lt_fl kModel_borrowerOf).1 (lt_fl kModel_borrowerOf).2 (lt_r kModel_borrowerOf) (lt_b kModel_borrowerOf) (pc_Model_borrowerOf) (pc_Model_borrowerOf 9) (i_Model_borrowerOf_9) = true := by decide +kernel
theorem fit_Model_borrowerOf_10 : sm_fit (lt_R kModel_borrowerOf) (lt_n kModel_borrowerOf) (lt_fl kModel_borrowerOf).1 (lt_fl kModel_borrowerOf).2 (lt_r kModel_borrowerOf) (lt_b kModel_borrowerOf) (pc_Model_borrowerOf) (pc_Model_borrowerOf 10) (i_Model_borrowerOf_10) = true := by decide +kernel
theorem fit_Model_borrowerOf_11 : sm_fit (lt_R kModel_borrowerOf) (lt_n kModel_borrowerOf) (lt_fl kModel_borrowerOf).1 (lt_fl kModel_borrowerOf).2 (lt_r kModel_borrowerOf) (lt_b kModel_borrowerOf) (pc_Model_borrowerOf) (pc_Model_borrowerOf 11) (i_Model_borrowerOf_11) = true := by decide +kernel
theorem fit_Model_borrowerOf_12 : sm_fit (lt_R kModel_borrowerOf) (lt_n kModel_borrowerOf) (lt_fl kModel_borrowerOf).1 (lt_fl kModel_borrowerOf).2 (lt_r kModel_borrowerOf) (lt_b kModel_borrowerOf) (pc_Model_borrowerOf) (pc_Model_borrowerOf 12) (i_Model_borrowerOf_12) = true := by decide +kernel
theorem fit_Model_inTheWayOf_0 : sm_fit (lt_R kModel_inTheWayOf) (lt_n kModel_inTheWayOf) (lt_fl kModel_inTheWayOf).1 (lt_fl kModel_inTheWayOf).2 (lt_r kModel_inTheWayOf) (lt_b kModel_inTheWayOf) (pc_Model_inTheWayOf) (pc_Model_inTheWayOf 0) (i_Model_inTheWayOf_0) = true := by decide +kernel
theorem fit_Model_inTheWayOf_1 : sm_fit (lt_R kModel_inTheWayOf) (lt_n kModel_inTheWayOf) (lt_fl kModel_inTheWayOf).1 (lt_fl kModel_inTheWayOf).2 (lt_r kModel_inTheWayOf) (lt_b kModel_inTheWayOf) (pc_Model_inTheWayOf) (pc_Model_inTheWayOf 1) (i_Model_inTheWayOf_1) = true := by decide +kernel
theorem fit_Model_inTheWayOf_2 : sm_fit (lt_R kModel_inTheWayOf) (lt_n kModel_inTheWayOf) (lt_fl kModel_inTheWayOf).1 (lt_fl kModel_inTheWayOf).2 (lt_r kModel_inTheWayOf) (lt_b kModel_inTheWayOf) (pc_Model_inTheWayOf) (pc_Model_inTheWayOf 2) (i_Model_inTheWayOf_2) = true := by decide +kernel
theorem fit_Model_inTheWayOf_3 : sm_fit (lt_R kModel_inTheWayOf) (lt_n kModel_inTheWayOf) (lt_fl kModel_inTheWayOf).1 (lt_fl kModel_inTheWayOf).2 (lt_r kModel_inTheWayOf) (lt_b kModel_inTheWayOf) (pc_Model_inTheWayOf) (pc_Model_inTheWayOf 3) (i_Model_inTheWayOf_3) = true := by decide +kernel
theorem fit_Model_inTheWayOf_4 : sm_fit (lt_R kModel_inTheWayOf) (lt_n kModel_inTheWayOf) (lt_fl kModel_inTheWayOf).1 (lt_fl kModel_inTheWayOf).2 (lt_r kModel_inTheWayOf) (lt_b kModel_inTheWayOf) (pc_Model_inTheWayOf) (pc_Model_inTheWayOf 4) (i_Model_inTheWayOf_4) = true := by decide +kernel
theorem fit_Model_inTheWayOf_5 : sm_fit (lt_R kModel_inTheWayOf) (lt_n kModel_inTheWayOf) (lt_fl kModel_inTheWayOf).1 (lt_fl kModel_inTheWayOf).2 (lt_r kModel_inTheWayOf) (lt_b kModel_inTheWayOf) (pc_Model_inTheWayOf) (pc_Model_inTheWayOf 5) (i_Model_inTheWayOf_5) = true := by decide +kernel
theorem fit_Model_inTheWayOf_6 : sm_fit (lt_R kModel_inTheWayOf) (lt_n kModel_inTheWayOf) (lt_fl kModel_inTheWayOf).1 (lt_fl kModel_inTheWayOf).2 (lt_r kModel_inTheWayOf) (lt_b kModel_inTheWayOf) (pc_Model_inTheWayOf) (pc_Model_inTheWayOf 6) (i_Model_inTheWayOf_6) = true := by decide +kernel
theorem fit_Model_inTheWayOf_7 : sm_fit (lt_R kModel_inTheWayOf) (lt_n kModel_inTheWayOf) (lt_fl kModel_inTheWayOf).1 (lt_fl kModel_inTheWayOf).2 (lt_r kModel_inTheWayOf) (lt_b kModel_inTheWayOf) (pc_Model_inTheWayOf) (pc_Model_inTheWayOf 7) (i_Model_inTheWayOf_7) = true := by decide +kernel
theorem fit_Model_inTheWayOf_8 : sm_fit (lt_R kModel_inTheWayOf) (lt_n kModel_inTheWayOf) (lt_fl kModel_inTheWayOf).1 (lt_fl kModel_inTheWayOf).2 (lt_r kModel_inTheWayOf) (lt_b kModel_inTheWayOf) (pc_Model_inTheWayOf) (pc_Model_inTheWayOf 8) (i_Model_inTheWayOf_8) = true := by decide +kernel
theorem fit_Model_inTheWayOf_9 : sm_fit (lt_R kModel_inTheWayOf) (lt_n kModel_inTheWayOf) (lt_fl kModel_inTheWayOf).1 (lt_fl kModel_inTheWayOf).2 (lt_r kModel_inTheWayOf) (lt_b kModel_inTheWayOf) (pc_Model_inTheWayOf) (pc_Model_inTheWayOf 9) (i_Model_inTheWayOf_9) = true := by decide +kernel
theorem fit_Model_inTheWayOf_10 : sm_fit (lt_R kModel_inTheWayOf) (lt_n kModel_inTheWayOf) (lt_fl kModel_inTheWayOf).1 (lt_fl kModel_inTheWayOf).2 (lt_r kModel_inTheWayOf) (lt_b kModel_inTheWayOf) (pc_Model_inTheWayOf) (pc_Model_inTheWayOf 10) (i_Model_inTheWayOf_10) = true := by decide +kernel
theorem fit_Model_inTheWayOf_11 : sm_fit (lt_R kModel_inTheWayOf) (lt_n kModel_inTheWayOf) (lt_fl kModel_inTheWayOf).1 (lt_fl kModel_inTheWayOf).2 (lt_r kModel_inTheWayOf) (lt_b kModel_inTheWayOf) (pc_Model_inTheWayOf) (pc_Model_inTheWayOf 11) (i_Model_inTheWayOf_11) = true := by decide +kernel
theorem fit_Model_inTheWayOf_12 : sm_fit (lt_R kModel_inTheWayOf) (lt_n kModel_inTheWayOf) (lt_fl kModel_inTheWayOf).1 (lt_fl kModel_inTheWayOf).2 (lt_r kModel_inTheWayOf) (lt_b kModel_inTheWayOf) (pc_Model_inTheWayOf) (pc_Model_inTheWayOf 12) (i_Model_inTheWayOf_12) = true := by decide +kernel
theorem fit_Model_inTheWayOf_13 : sm_fit (lt_R kModel_inTheWayOf) (lt_n kModel_inTheWayOf) (lt_fl kModel_inTheWayOf).1 (lt_fl kModel_inTheWayOf).2 (lt_r kModel_inTheWayOf) (lt_b kModel_inTheWayOf) (pc_Model_inTheWayOf) (pc_Model_inTheWayOf 13) (i_Model_inTheWayOf_13) = true := by decide +kernel
theorem fit_Model_inTheWayOf_14 : sm_fit (lt_R kModel_inTheWayOf) (lt_n kModel_inTheWayOf) (lt_fl kModel_inTheWayOf).1 (lt_fl kModel_inTheWayOf).2 (lt_r kModel_inTheWayOf) (lt_b kModel_inTheWayOf) (pc_Model_inTheWayOf) (pc_Model_inTheWayOf 14) (i_Model_inTheWayOf_14) = true := by decide +kernel
theorem fit_Model_inTheWayOf_15 : sm_fit (lt_R kModel_inTheWayOf) (lt_n kModel_inTheWayOf) (lt_fl kModel_inTheWayOf).1 (lt_fl kModel_inTheWayOf).2 (lt_r kModel_inTheWayOf) (lt_b kModel_inTheWayOf) (pc_Model_inTheWayOf) (pc_Model_inTheWayOf 15) (i_Model_inTheWayOf_15) = true := by decide +kernel
theorem fit_Model_inTheWayOf_16 : sm_fit (lt_R kModel_inTheWayOf) (lt_n kModel_inTheWayOf) (lt_fl kModel_inTheWayOf).1 (lt_fl kModel_inTheWayOf).2 (lt_r kModel_inTheWayOf) (lt_b kModel_inTheWayOf) (pc_Model_inTheWayOf) (pc_Model_inTheWayOf 16) (i_Model_inTheWayOf_16) = true := by decide +kernel
theorem fit_Model_inTheWayOf_17 : sm_fit (lt_R kModel_inTheWayOf) (lt_n kModel_inTheWayOf) (lt_fl kModel_inTheWayOf).1 (lt_fl kModel_inTheWayOf).2 (lt_r kModel_inTheWayOf) (lt_b kModel_inTheWayOf) (pc_Model_inTheWayOf) (pc_Model_inTheWayOf 17) (i_Model_inTheWayOf_17) = true := by decide +kernel
theorem fit_Model_inTheWayOf_18 : sm_fit (lt_R kModel_inTheWayOf) (lt_n kModel_inTheWayOf) (lt_fl kModel_inTheWayOf).1 (lt_fl kModel_inTheWayOf).2 (lt_r kModel_inTheWayOf) (lt_b kModel_inTheWayOf) (pc_Model_inTheWayOf) (pc_Model_inTheWayOf 18) (i_Model_inTheWayOf_18) = true := by decide +kernel
theorem fit_Model_inTheWayOf_19 : sm_fit (lt_R kModel_inTheWayOf) (lt_n kModel_inTheWayOf) (lt_fl kModel_inTheWayOf).1 (lt_fl kModel_inTheWayOf).2 (lt_r kModel_inTheWayOf) (lt_b kModel_inTheWayOf) (pc_Model_inTheWayOf) (pc_Model_inTheWayOf 19) (i_Model_inTheWayOf_19) = true := by decide +kernel
theorem fit_Model_inTheWayOf_20 : sm_fit (lt_R kModel_inTheWayOf) (lt_n kModel_inTheWayOf) (lt_fl kModel_inTheWayOf).1 (lt_fl kModel_inTheWayOf).2 (lt_r kModel_inTheWayOf) (lt_b kModel_inTheWayOf) (pc_Model_inTheWayOf) (pc_Model_inTheWayOf 20) (i_Model_inTheWayOf_20) = true := by decide +kernel
theorem fit_Model_inTheWayOf_21 : sm_fit (lt_R kModel_inTheWayOf) (lt_n kModel_inTheWayOf) (lt_fl kModel_inTheWayOf).1 (lt_fl kModel_inTheWayOf).2 (lt_r kModel_inTheWayOf) (lt_b kModel_inTheWayOf) (pc_Model_inTheWayOf) (pc_Model_inTheWayOf 21) (i_Model_inTheWayOf_21) = true := by decide +kernel
theorem fit_Model_inTheWayOf_22 : sm_fit (lt_R kModel_inTheWayOf) (lt_n kModel_inTheWayOf) (lt_fl kModel_inTheWayOf).1 (lt_fl kModel_inTheWayOf).2 (lt_r kModel_inTheWayOf) (lt_b kModel_inTheWayOf) (pc_Model_inTheWayOf) (pc_Model_inTheWayOf 22) (i_Model_inTheWayOf_22) = true := by decide +kernel
theorem fit_Model_isWrongUse_0 : sm_fit (lt_R kModel_isWrongUse) (lt_n kModel_isWrongUse) (lt_fl kModel_isWrongUse).1 (lt_fl kModel_isWrongUse).2 (lt_r kModel_isWrongUse) (lt_b kModel_isWrongUse) (pc_Model_isWrongUse) (pc_Model_isWrongUse 0) (i_Model_isWrongUse_0) = true := by decide +kernel
theorem fit_Model_isWrongUse_1 : sm_fit (lt_R kModel_isWrongUse) (lt_n kModel_isWrongUse) (lt_fl kModel_isWrongUse).1 (lt_fl kModel_isWrongUse).2 (lt_r kModel_isWrongUse) (lt_b kModel_isWrongUse) (pc_Model_isWrongUse) (pc_Model_isWrongUse 1) (i_Model_isWrongUse_1) = true := by decide +kernel
theorem fit_Model_isWrongUse_2 : sm_fit (lt_R kModel_isWrongUse) (lt_n kModel_isWrongUse) (lt_fl kModel_isWrongUse).1 (lt_fl kModel_isWrongUse).2 (lt_r kModel_isWrongUse) (lt_b kModel_isWrongUse) (pc_Model_isWrongUse) (pc_Model_isWrongUse 2) (i_Model_isWrongUse_2) = true := by decide +kernel
theorem fit_Model_isWrongUse_3 : sm_fit (lt_R kModel_isWrongUse) (lt_n kModel_isWrongUse) (lt_fl kModel_isWrongUse).1 (lt_fl kModel_isWrongUse).2 (lt_r kModel_isWrongUse) (lt_b kModel_isWrongUse) (pc_Model_isWrongUse) (pc_Model_isWrongUse 3) (i_Model_isWrongUse_3) = true := by decide +kernel
theorem fit_Model_isWrongUse_4 : sm_fit (lt_R kModel_isWrongUse) (lt_n kModel_isWrongUse) (lt_fl kModel_isWrongUse).1 (lt_fl kModel_isWrongUse).2 (lt_r kModel_isWrongUse) (lt_b kModel_isWrongUse) (pc_Model_isWrongUse) (pc_Model_isWrongUse 4) (i_Model_isWrongUse_4) = true := by decide +kernel
theorem fit_Model_isWrongUse_5 : sm_fit (lt_R kModel_isWrongUse) (lt_n kModel_isWrongUse) (lt_fl kModel_isWrongUse).1 (lt_fl kModel_isWrongUse).2 (lt_r kModel_isWrongUse) (lt_b kModel_isWrongUse) (pc_Model_isWrongUse) (pc_Model_isWrongUse 5) (i_Model_isWrongUse_5) = true := by decide +kernel
theorem fit_Model_isWrongUse_6 : sm_fit (lt_R kModel_isWrongUse) (lt_n kModel_isWrongUse) (lt_fl kModel_isWrongUse).1 (lt_fl kModel_isWrongUse).2 (lt_r kModel_isWrongUse) (lt_b kModel_isWrongUse) (pc_Model_isWrongUse) (pc_Model_isWrongUse 6) (i_Model_isWrongUse_6) = true := by decide +kernel
theorem fit_Model_isWrongUse_7 : sm_fit (lt_R kModel_isWrongUse) (lt_n kModel_isWrongUse) (lt_fl kModel_isWrongUse).1 (lt_fl kModel_isWrongUse).2 (lt_r kModel_isWrongUse) (lt_b kModel_isWrongUse) (pc_Model_isWrongUse) (pc_Model_isWrongUse 7) (i_Model_isWrongUse_7) = true := by decide +kernel
theorem fit_Model_isWrongUse_8 : sm_fit (lt_R kModel_isWrongUse) (lt_n kModel_isWrongUse) (lt_fl kModel_isWrongUse).1 (lt_fl kModel_isWrongUse).2 (lt_r kModel_isWrongUse) (lt_b kModel_isWrongUse) (pc_Model_isWrongUse) (pc_Model_isWrongUse 8) (i_Model_isWrongUse_8) = true := by decide +kernel
theorem fit_Model_isWrongUse_9 : sm_fit (lt_R kModel_isWrongUse) (lt_n kModel_isWrongUse) (lt_fl kModel_isWrongUse).1 (lt_fl kModel_isWrongUse).2 (lt_r kModel_isWrongUse) (lt_b kModel_isWrongUse) (pc_Model_isWrongUse) (pc_Model_isWrongUse 9) (i_Model_isWrongUse_9) = true := by decide +kernel
theorem fit_Model_isWrongUse_10 : sm_fit (lt_R kModel_isWrongUse) (lt_n kModel_isWrongUse) (lt_fl kModel_isWrongUse).1 (lt_fl kModel_isWrongUse).2 (lt_r kModel_isWrongUse) (lt_b kModel_isWrongUse) (pc_Model_isWrongUse) (pc_Model_isWrongUse 10) (i_Model_isWrongUse_10) = true := by decide +kernel
theorem fit_Model_isWrongUse_11 : sm_fit (lt_R kModel_isWrongUse) (lt_n kModel_isWrongUse) (lt_fl kModel_isWrongUse).1 (lt_fl kModel_isWrongUse).2 (lt_r kModel_isWrongUse) (lt_b kModel_isWrongUse) (pc_Model_isWrongUse) (pc_Model_isWrongUse 11) (i_Model_isWrongUse_11) = true := by decide +kernel
theorem fit_Model_errorOfEnd_0 : sm_fit (lt_R kModel_errorOfEnd) (lt_n kModel_errorOfEnd) (lt_fl kModel_errorOfEnd).1 (lt_fl kModel_errorOfEnd).2 (lt_r kModel_errorOfEnd) (lt_b kModel_errorOfEnd) (pc_Model_errorOfEnd) (pc_Model_errorOfEnd 0) (i_Model_errorOfEnd_0) = true := by decide +kernel
theorem fit_Model_errorOfEnd_1 : sm_fit (lt_R kModel_errorOfEnd) (lt_n kModel_errorOfEnd) (lt_fl kModel_errorOfEnd).1 (lt_fl kModel_errorOfEnd).2 (lt_r kModel_errorOfEnd) (lt_b kModel_errorOfEnd) (pc_Model_errorOfEnd) (pc_Model_errorOfEnd 1) (i_Model_errorOfEnd_1) = true := by decide +kernel
theorem fit_Model_errorOfEnd_2 : sm_fit (lt_R kModel_errorOfEnd) (lt_n kModel_errorOfEnd) (lt_fl kModel_errorOfEnd).1 (lt_fl kModel_errorOfEnd).2 (lt_r kModel_errorOfEnd) (lt_b kModel_errorOfEnd) (pc_Model_errorOfEnd) (pc_Model_errorOfEnd 2) (i_Model_errorOfEnd_2) = true := by decide +kernel
theorem fit_Model_errorOfEnd_3 : sm_fit (lt_R kModel_errorOfEnd) (lt_n kModel_errorOfEnd) (lt_fl kModel_errorOfEnd).1 (lt_fl kModel_errorOfEnd).2 (lt_r kModel_errorOfEnd) (lt_b kModel_errorOfEnd) (pc_Model_errorOfEnd) (pc_Model_errorOfEnd 3) (i_Model_errorOfEnd_3) = true := by decide +kernel
theorem fit_Model_errorOfEnd_4 : sm_fit (lt_R kModel_errorOfEnd) (lt_n kModel_errorOfEnd) (lt_fl kModel_errorOfEnd).1 (lt_fl kModel_errorOfEnd).2 (lt_r kModel_errorOfEnd) (lt_b kModel_errorOfEnd) (pc_Model_errorOfEnd) (pc_Model_errorOfEnd 4) (i_Model_errorOfEnd_4) = true := by decide +kernel
theorem fit_Model_errorOfEnd_5 : sm_fit (lt_R kModel_errorOfEnd) (lt_n kModel_errorOfEnd) (lt_fl kModel_errorOfEnd).1 (lt_fl kModel_errorOfEnd).2 (lt_r kModel_errorOfEnd) (lt_b kModel_errorOfEnd) (pc_Model_errorOfEnd) (pc_Model_errorOfEnd 5) (i_Model_errorOfEnd_5) = true := by decide +kernel
theorem fit_Model_errorOfEnd_6 : sm_fit (lt_R kModel_errorOfEnd) (lt_n kModel_errorOfEnd) (lt_fl kModel_errorOfEnd).1 (lt_fl kModel_errorOfEnd).2 (lt_r kModel_errorOfEnd) (lt_b kModel_errorOfEnd) (pc_Model_errorOfEnd) (pc_Model_errorOfEnd 6) (i_Model_errorOfEnd_6) = true := by decide +kernel
theorem fit_Model_errorOfEnd_7 : sm_fit (lt_R kModel_errorOfEnd) (lt_n kModel_errorOfEnd) (lt_fl kModel_errorOfEnd).1 (lt_fl kModel_errorOfEnd).2 (lt_r kModel_errorOfEnd) (lt_b kModel_errorOfEnd) (pc_Model_errorOfEnd) (pc_Model_errorOfEnd 7) (i_Model_errorOfEnd_7) = true := by decide +kernel
theorem fit_Model_errorOfEnd_8 : sm_fit (lt_R kModel_errorOfEnd) (lt_n kModel_errorOfEnd) (lt_fl kModel_errorOfEnd).1 (lt_fl kModel_errorOfEnd).2 (lt_r kModel_errorOfEnd) (lt_b kModel_errorOfEnd) (pc_Model_errorOfEnd) (pc_Model_errorOfEnd 8) (i_Model_errorOfEnd_8) = true := by decide +kernel
theorem fit_Model_errorOfEnd_9 : sm_fit (lt_R kModel_errorOfEnd) (lt_n kModel_errorOfEnd) (lt_fl kModel_errorOfEnd).1 (lt_fl kModel_errorOfEnd).2 (lt_r kModel_errorOfEnd) (lt_b kModel_errorOfEnd) (pc_Model_errorOfEnd) (pc_Model_errorOfEnd 9) (i_Model_errorOfEnd_9) = true := by decide +kernel
theorem fit_Model_errorOfEnd_10 : sm_fit (lt_R kModel_errorOfEnd) (lt_n kModel_errorOfEnd) (lt_fl kModel_errorOfEnd).1 (lt_fl kModel_errorOfEnd).2 (lt_r kModel_errorOfEnd) (lt_b kModel_errorOfEnd) (pc_Model_errorOfEnd) (pc_Model_errorOfEnd 10) (i_Model_errorOfEnd_10) = true := by decide +kernel
theorem fit_Model_errorOfEnd_11 : sm_fit (lt_R kModel_errorOfEnd) (lt_n kModel_errorOfEnd) (lt_fl kModel_errorOfEnd).1 (lt_fl kModel_errorOfEnd).2 (lt_r kModel_errorOfEnd) (lt_b kModel_errorOfEnd) (pc_Model_errorOfEnd) (pc_Model_errorOfEnd 11) (i_Model_errorOfEnd_11) = true := by decide +kernel
theorem fit_Model_errorOf_0 : sm_fit (lt_R kModel_errorOf) (lt_n kModel_errorOf) (lt_fl kModel_errorOf).1 (lt_fl kModel_errorOf).2 (lt_r kModel_errorOf) (lt_b kModel_errorOf) (pc_Model_errorOf) (pc_Model_errorOf 0) (i_Model_errorOf_0) = true := by decide +kernel
theorem fit_Model_errorOf_1 : sm_fit (lt_R kModel_errorOf) (lt_n kModel_errorOf) (lt_fl kModel_errorOf).1 (lt_fl kModel_errorOf).2 (lt_r kModel_errorOf) (lt_b kModel_errorOf) (pc_Model_errorOf) (pc_Model_errorOf 1) (i_Model_errorOf_1) = true := by decide +kernel
theorem fit_Model_errorOf_2 : sm_fit (lt_R kModel_errorOf) (lt_n kModel_errorOf) (lt_fl kModel_errorOf).1 (lt_fl kModel_errorOf).2 (lt_r kModel_errorOf) (lt_b kModel_errorOf) (pc_Model_errorOf) (pc_Model_errorOf 2) (i_Model_errorOf_2) = true := by decide +kernel
theorem fit_Model_errorOf_3 : sm_fit (lt_R kModel_errorOf) (lt_n kModel_errorOf) (lt_fl kModel_errorOf).1 (lt_fl kModel_errorOf).2 (lt_r kModel_errorOf) (lt_b kModel_errorOf) (pc_Model_errorOf) (pc_Model_errorOf 3) (i_Model_errorOf_3) = true := by decide +kernel
theorem fit_Model_errorOf_4 : sm_fit (lt_R kModel_errorOf) (lt_n kModel_errorOf) (lt_fl kModel_errorOf).1 (lt_fl kModel_errorOf).2 (lt_r kModel_errorOf) (lt_b kModel_errorOf) (pc_Model_errorOf) (pc_Model_errorOf 4) (i_Model_errorOf_4) = true := by decide +kernel
theorem fit_Model_errorOf_5 : sm_fit (lt_R kModel_errorOf) (lt_n kModel_errorOf) (lt_fl kModel_errorOf).1 (lt_fl kModel_errorOf).2 (lt_r kModel_errorOf) (lt_b kModel_errorOf) (pc_Model_errorOf) (pc_Model_errorOf 5) (i_Model_errorOf_5) = true := by decide +kernel
theorem fit_Model_errorOf_6 : sm_fit (lt_R kModel_errorOf) (lt_n kModel_errorOf) (lt_fl kModel_errorOf).1 (lt_fl kModel_errorOf).2 (lt_r kModel_errorOf) (lt_b kModel_errorOf) (pc_Model_errorOf) (pc_Model_errorOf 6) (i_Model_errorOf_6) = true := by decide +kernel
theorem fit_Model_errorOf_7 : sm_fit (lt_R kModel_errorOf) (lt_n kModel_errorOf) (lt_fl kModel_errorOf).1 (lt_fl kModel_errorOf).2 (lt_r kModel_errorOf) (lt_b kModel_errorOf) (pc_Model_errorOf) (pc_Model_errorOf 7) (i_Model_errorOf_7) = true := by decide +kernel
theorem fit_Model_errorOf_8 : sm_fit (lt_R kModel_errorOf) (lt_n kModel_errorOf) (lt_fl kModel_errorOf).1 (lt_fl kModel_errorOf).2 (lt_r kModel_errorOf) (lt_b kModel_errorOf) (pc_Model_errorOf) (pc_Model_errorOf 8) (i_Model_errorOf_8) = true := by decide +kernel
theorem fit_Model_errorOf_9 : sm_fit (lt_R kModel_errorOf) (lt_n kModel_errorOf) (lt_fl kModel_errorOf).1 (lt_fl kModel_errorOf).2 (lt_r kModel_errorOf) (lt_b kModel_errorOf) (pc_Model_errorOf) (pc_Model_errorOf 9) (i_Model_errorOf_9) = true := by decide +kernel
theorem fit_Model_errorOf_10 : sm_fit (lt_R kModel_errorOf) (lt_n kModel_errorOf) (lt_fl kModel_errorOf).1 (lt_fl kModel_errorOf).2 (lt_r kModel_errorOf) (lt_b kModel_errorOf) (pc_Model_errorOf) (pc_Model_errorOf 10) (i_Model_errorOf_10) = true := by decide +kernel
theorem fit_Model_errorOf_11 : sm_fit (lt_R kModel_errorOf) (lt_n kModel_errorOf) (lt_fl kModel_errorOf).1 (lt_fl kModel_errorOf).2 (lt_r kModel_errorOf) (lt_b kModel_errorOf) (pc_Model_errorOf) (pc_Model_errorOf 11) (i_Model_errorOf_11) = true := by decide +kernel
theorem fit_Model_errorOf_12 : sm_fit (lt_R kModel_errorOf) (lt_n kModel_errorOf) (lt_fl kModel_errorOf).1 (lt_fl kModel_errorOf).2 (lt_r kModel_errorOf) (lt_b kModel_errorOf) (pc_Model_errorOf) (pc_Model_errorOf 12) (i_Model_errorOf_12) = true := by decide +kernel
theorem fit_Model_errorOf_13 : sm_fit (lt_R kModel_errorOf) (lt_n kModel_errorOf) (lt_fl kModel_errorOf).1 (lt_fl kModel_errorOf).2 (lt_r kModel_errorOf) (lt_b kModel_errorOf) (pc_Model_errorOf) (pc_Model_errorOf 13) (i_Model_errorOf_13) = true := by decide +kernel
theorem fit_Model_errorOf_14 : sm_fit (lt_R kModel_errorOf) (lt_n kModel_errorOf) (lt_fl kModel_errorOf).1 (lt_fl kModel_errorOf).2 (lt_r kModel_errorOf) (lt_b kModel_errorOf) (pc_Model_errorOf) (pc_Model_errorOf 14) (i_Model_errorOf_14) = true := by decide +kernel
theorem fit_Model_errorOf_15 : sm_fit (lt_R kModel_errorOf) (lt_n kModel_errorOf) (lt_fl kModel_errorOf).1 (lt_fl kModel_errorOf).2 (lt_r kModel_errorOf) (lt_b kModel_errorOf) (pc_Model_errorOf) (pc_Model_errorOf 15) (i_Model_errorOf_15) = true := by decide +kernel
theorem fit_Model_errorOf_16 : sm_fit (lt_R kModel_errorOf) (lt_n kModel_errorOf) (lt_fl kModel_errorOf).1 (lt_fl kModel_errorOf).2 (lt_r kModel_errorOf) (lt_b kModel_errorOf) (pc_Model_errorOf) (pc_Model_errorOf 16) (i_Model_errorOf_16) = true := by decide +kernel
theorem fit_Model_errorOf_17 : sm_fit (lt_R kModel_errorOf) (lt_n kModel_errorOf) (lt_fl kModel_errorOf).1 (lt_fl kModel_errorOf).2 (lt_r kModel_errorOf) (lt_b kModel_errorOf) (pc_Model_errorOf) (pc_Model_errorOf 17) (i_Model_errorOf_17) = true := by decide +kernel
theorem fit_Model_errorOf_18 : sm_fit (lt_R kModel_errorOf) (lt_n kModel_errorOf) (lt_fl kModel_errorOf).1 (lt_fl kModel_errorOf).2 (lt_r kModel_errorOf) (lt_b kModel_errorOf) (pc_Model_errorOf) (pc_Model_errorOf 18) (i_Model_errorOf_18) = true := by decide +kernel
theorem fit_Model_errorOf_19 : sm_fit (lt_R kModel_errorOf) (lt_n kModel_errorOf) (lt_fl kModel_errorOf).1 (lt_fl kModel_errorOf).2 (lt_r kModel_errorOf) (lt_b kModel_errorOf) (pc_Model_errorOf) (pc_Model_errorOf 19) (i_Model_errorOf_19) = true := by decide +kernel
theorem fit_Model_errorOf_20 : sm_fit (lt_R kModel_errorOf) (lt_n kModel_errorOf) (lt_fl kModel_errorOf).1 (lt_fl kModel_errorOf).2 (lt_r kModel_errorOf) (lt_b kModel_errorOf) (pc_Model_errorOf) (pc_Model_errorOf 20) (i_Model_errorOf_20) = true := by decide +kernel
theorem fit_Model_errorOf_21 : sm_fit (lt_R kModel_errorOf) (lt_n kModel_errorOf) (lt_fl kModel_errorOf).1 (lt_fl kModel_errorOf).2 (lt_r kModel_errorOf) (lt_b kModel_errorOf) (pc_Model_errorOf) (pc_Model_errorOf 21) (i_Model_errorOf_21) = true := by decide +kernel
theorem fit_Model_errorOf_22 : sm_fit (lt_R kModel_errorOf) (lt_n kModel_errorOf) (lt_fl kModel_errorOf).1 (lt_fl kModel_errorOf).2 (lt_r kModel_errorOf) (lt_b kModel_errorOf) (pc_Model_errorOf) (pc_Model_errorOf 22) (i_Model_errorOf_22) = true := by decide +kernel
theorem fit_Model_errorOf_23 : sm_fit (lt_R kModel_errorOf) (lt_n kModel_errorOf) (lt_fl kModel_errorOf).1 (lt_fl kModel_errorOf).2 (lt_r kModel_errorOf) (lt_b kModel_errorOf) (pc_Model_errorOf) (pc_Model_errorOf 23) (i_Model_errorOf_23) = true := by decide +kernel
theorem fit_Model_errorOf_24 : sm_fit (lt_R kModel_errorOf) (lt_n kModel_errorOf) (lt_fl kModel_errorOf).1 (lt_fl kModel_errorOf).2 (lt_r kModel_errorOf) (lt_b kModel_errorOf) (pc_Model_errorOf) (pc_Model_errorOf 24) (i_Model_errorOf_24) = true := by decide +kernel
theorem fit_Model_errorOf_25 : sm_fit (lt_R kModel_errorOf) (lt_n kModel_errorOf) (lt_fl kModel_errorOf).1 (lt_fl kModel_errorOf).2 (lt_r kModel_errorOf) (lt_b kModel_errorOf) (pc_Model_errorOf) (pc_Model_errorOf 25) (i_Model_errorOf_25) = true := by decide +kernel
theorem fit_Model_errorOf_26 : sm_fit (lt_R kModel_errorOf) (lt_n kModel_errorOf) (lt_fl kModel_errorOf).1 (lt_fl kModel_errorOf).2 (lt_r kModel_errorOf) (lt_b kModel_errorOf) (pc_Model_errorOf) (pc_Model_errorOf 26) (i_Model_errorOf_26) = true := by decide +kernel
theorem fit_Model_errorOf_27 : sm_fit (lt_R kModel_errorOf) (lt_n kModel_errorOf) (lt_fl kModel_errorOf).1 (lt_fl kModel_errorOf).2 (lt_r kModel_errorOf) (lt_b kModel_errorOf) (pc_Model_errorOf) (pc_Model_errorOf 27) (i_Model_errorOf_27) = true := by decide +kernel
theorem fit_Model_errorOf_28 : sm_fit (lt_R kModel_errorOf) (lt_n kModel_errorOf) (lt_fl kModel_errorOf).1 (lt_fl kModel_errorOf).2 (lt_r kModel_errorOf) (lt_b kModel_errorOf) (pc_Model_errorOf) (pc_Model_errorOf 28) (i_Model_errorOf_28) = true := by decide +kernel
theorem fit_Model_errorOf_29 : sm_fit (lt_R kModel_errorOf) (lt_n kModel_errorOf) (lt_fl kModel_errorOf).1 (lt_fl kModel_errorOf).2 (lt_r kModel_errorOf) (lt_b kModel_errorOf) (pc_Model_errorOf) (pc_Model_errorOf 29) (i_Model_errorOf_29) = true := by decide +kernel
theorem fit_Model_errorOf_30 : sm_fit (lt_R kModel_errorOf) (lt_n kModel_errorOf) (lt_fl kModel_errorOf).1 (lt_fl kModel_errorOf).2 (lt_r kModel_errorOf) (lt_b kModel_errorOf) (pc_Model_errorOf) (pc_Model_errorOf 30) (i_Model_errorOf_30) = true := by decide +kernel
theorem fit_Model_errorOf_31 : sm_fit (lt_R kModel_errorOf) (lt_n kModel_errorOf) (lt_fl kModel_errorOf).1 (lt_fl kModel_errorOf).2 (lt_r kModel_errorOf) (lt_b kModel_errorOf) (pc_Model_errorOf) (pc_Model_errorOf 31) (i_Model_errorOf_31) = true := by decide +kernel
theorem fit_Model_errorOf_32 : sm_fit (lt_R kModel_errorOf) (lt_n kModel_errorOf) (lt_fl kModel_errorOf).1 (lt_fl kModel_errorOf).2 (lt_r kModel_errorOf) (lt_b kModel_errorOf) (pc_Model_errorOf) (pc_Model_errorOf 32) (i_Model_errorOf_32) = true := by decide +kernel
theorem fit_Model_errorOf_33 : sm_fit (lt_R kModel_errorOf) (lt_n kModel_errorOf) (lt_fl kModel_errorOf).1 (lt_fl kModel_errorOf).2 (lt_r kModel_errorOf) (lt_b kModel_errorOf) (pc_Model_errorOf) (pc_Model_errorOf 33) (i_Model_errorOf_33) = true := by decide +kernel
theorem fit_Model_errorOf_34 : sm_fit (lt_R kModel_errorOf) (lt_n kModel_errorOf) (lt_fl kModel_errorOf).1 (lt_fl kModel_errorOf).2 (lt_r kModel_errorOf) (lt_b kModel_errorOf) (pc_Model_errorOf) (pc_Model_errorOf 34) (i_Model_errorOf_34) = true := by decide +kernel
theorem fit_Model_errorOf_35 : sm_fit (lt_R kModel_errorOf) (lt_n kModel_errorOf) (lt_fl kModel_errorOf).1 (lt_fl kModel_errorOf).2 (lt_r kModel_errorOf) (lt_b kModel_errorOf) (pc_Model_errorOf) (pc_Model_errorOf 35) (i_Model_errorOf_35) = true := by decide +kernel
theorem fit_Model_errorOf_36 : sm_fit (lt_R kModel_errorOf) (lt_n kModel_errorOf) (lt_fl kModel_errorOf).1 (lt_fl kModel_errorOf).2 (lt_r kModel_errorOf) (lt_b kModel_errorOf) (pc_Model_errorOf) (pc_Model_errorOf 36) (i_Model_errorOf_36) = true := by decide +kernel
theorem fit_Model_errorOf_37 : sm_fit (lt_R kModel_errorOf) (lt_n kModel_errorOf) (lt_fl kModel_errorOf).1 (lt_fl kModel_errorOf).2 (lt_r kModel_errorOf) (lt_b kModel_errorOf) (pc_Model_errorOf) (pc_Model_errorOf 37) (i_Model_errorOf_37) = true := by decide +kernel
theorem fit_Model_errorOf_38 : sm_fit (lt_R kModel_errorOf) (lt_n kModel_errorOf) (lt_fl kModel_errorOf).1 (lt_fl kModel_errorOf).2 (lt_r kModel_errorOf) (lt_b kModel_errorOf) (pc_Model_errorOf) (pc_Model_errorOf 38) (i_Model_errorOf_38) = true := by decide +kernel
theorem fit_Model_errorOf_39 : sm_fit (lt_R kModel_errorOf) (lt_n kModel_errorOf) (lt_fl kModel_errorOf).1 (lt_fl kModel_errorOf).2 (lt_r kModel_errorOf) (lt_b kModel_errorOf) (pc_Model_errorOf) (pc_Model_errorOf 39) (i_Model_errorOf_39) = true := by decide +kernel
theorem fit_Model_errorOf_40 : sm_fit (lt_R kModel_errorOf) (lt_n kModel_errorOf) (lt_fl kModel_errorOf).1 (lt_fl kModel_errorOf).2 (lt_r kModel_errorOf) (lt_b kModel_errorOf) (pc_Model_errorOf) (pc_Model_errorOf 40) (i_Model_errorOf_40) = true := by decide +kernel
theorem fit_Model_errorOf_41 : sm_fit (lt_R kModel_errorOf) (lt_n kModel_errorOf) (lt_fl kModel_errorOf).1 (lt_fl kModel_errorOf).2 (lt_r kModel_errorOf) (lt_b kModel_errorOf) (pc_Model_errorOf) (pc_Model_errorOf 41) (i_Model_errorOf_41) = true := by decide +kernel
theorem fit_Model_errorOf_42 : sm_fit (lt_R kModel_errorOf) (lt_n kModel_errorOf) (lt_fl kModel_errorOf).1 (lt_fl kModel_errorOf).2 (lt_r kModel_errorOf) (lt_b kModel_errorOf) (pc_Model_errorOf) (pc_Model_errorOf 42) (i_Model_errorOf_42) = true := by decide +kernel
theorem fit_Model_errorOf_43 : sm_fit (lt_R kModel_errorOf) (lt_n kModel_errorOf) (lt_fl kModel_errorOf).1 (lt_fl kModel_errorOf).2 (lt_r kModel_errorOf) (lt_b kModel_errorOf) (pc_Model_errorOf) (pc_Model_errorOf 43) (i_Model_errorOf_43) = true := by decide +kernel
theorem fit_Model_errorOf_44 : sm_fit (lt_R kModel_errorOf) (lt_n kModel_errorOf) (lt_fl kModel_errorOf).1 (lt_fl kModel_errorOf).2 (lt_r kModel_errorOf) (lt_b kModel_errorOf) (pc_Model_errorOf) (pc_Model_errorOf 44) (i_Model_errorOf_44) = true := by decide +kernel
theorem fit_Model_errorOf_45 : sm_fit (lt_R kModel_errorOf) (lt_n kModel_errorOf) (lt_fl kModel_errorOf).1 (lt_fl kModel_errorOf).2 (lt_r kModel_errorOf) (lt_b kModel_errorOf) (pc_Model_errorOf) (pc_Model_errorOf 45) (i_Model_errorOf_45) = true := by decide +kernel
theorem fit_Model_errorOf_46 : sm_fit (lt_R kModel_errorOf) (lt_n kModel_errorOf) (lt_fl kModel_errorOf).1 (lt_fl kModel_errorOf).2 (lt_r kModel_errorOf) (lt_b kModel_errorOf) (pc_Model_errorOf) (pc_Model_errorOf 46) (i_Model_errorOf_46) = true := by decide +kernel
theorem fit_Model_errorOf_47 : sm_fit (lt_R kModel_errorOf) (lt_n kModel_errorOf) (lt_fl kModel_errorOf).1 (lt_fl kModel_errorOf).2 (lt_r kModel_errorOf) (lt_b kModel_errorOf) (pc_Model_errorOf) (pc_Model_errorOf 47) (i_Model_errorOf_47) = true := by decide +kernel
theorem fit_Model_errorOf_48 : sm_fit (lt_R kModel_errorOf) (lt_n kModel_errorOf) (lt_fl kModel_errorOf).1 (lt_fl kModel_errorOf).2 (lt_r kModel_errorOf) (lt_b kModel_errorOf) (pc_Model_errorOf) (pc_Model_errorOf 48) (i_Model_errorOf_48) = true := by decide +kernel
theorem fit_Model_errorOf_49 : sm_fit (lt_R kModel_errorOf) (lt_n kModel_errorOf) (lt_fl kModel_errorOf).1 (lt_fl kModel_errorOf).2 (lt_r kModel_errorOf) (lt_b kModel_errorOf) (pc_Model_errorOf) (pc_Model_errorOf 49) (i_Model_errorOf_49) = true := by decide +kernel
theorem fit_Model_firstError_0 : sm_fit (lt_R kModel_firstError) (lt_n kModel_firstError) (lt_fl kModel_firstError).1 (lt_fl kModel_firstError).2 (lt_r kModel_firstError) (lt_b kModel_firstError) (pc_Model_firstError) (pc_Model_firstError 0) (i_Model_firstError_0) = true := by decide +kernel
theorem fit_Model_firstError_1 : sm_fit (lt_R kModel_firstError) (lt_n kModel_firstError) (lt_fl kModel_firstError).1 (lt_fl kModel_firstError).2 (lt_r kModel_firstError) (lt_b kModel_firstError) (pc_Model_firstError) (pc_Model_firstError 1) (i_Model_firstError_1) = true := by decide +kernel
theorem fit_Model_firstError_2 : sm_fit (lt_R kModel_firstError) (lt_n kModel_firstError) (lt_fl kModel_firstError).1 (lt_fl kModel_firstError).2 (lt_r kModel_firstError) (lt_b kModel_firstError) (pc_Model_firstError) (pc_Model_firstError 2) (i_Model_firstError_2) = true := by decide +kernel
theorem fit_Model_firstError_3 : sm_fit (lt_R kModel_firstError) (lt_n kModel_firstError) (lt_fl kModel_firstError).1 (lt_fl kModel_firstError).2 (lt_r kModel_firstError) (lt_b kModel_firstError) (pc_Model_firstError) (pc_Model_firstError 3) (i_Model_firstError_3) = true := by decide +kernel
theorem fit_Model_firstError_4 : sm_fit (lt_R kModel_firstError) (lt_n kModel_firstError) (lt_fl kModel_firstError).1 (lt_fl kModel_firstError).2 (lt_r kModel_firstError) (lt_b kModel_firstError) (pc_Model_firstError) (pc_Model_firstError 4) (i_Model_firstError_4) = true := by decide +kernel
theorem fit_Model_firstError_5 : sm_fit (lt_R kModel_firstError) (lt_n kModel_firstError) (lt_fl kModel_firstError).1 (lt_fl kModel_firstError).2 (lt_r kModel_firstError) (lt_b kModel_firstError) (pc_Model_firstError) (pc_Model_firstError 5) (i_Model_firstError_5) = true := by decide +kernel
theorem fit_Model_firstError_6 : sm_fit (lt_R kModel_firstError) (lt_n kModel_firstError) (lt_fl kModel_firstError).1 (lt_fl kModel_firstError).2 (lt_r kModel_firstError) (lt_b kModel_firstError) (pc_Model_firstError) (pc_Model_firstError 6) (i_Model_firstError_6) = true := by decide +kernel
theorem fit_Model_check_0 : sm_fit (lt_R kModel_check) (lt_n kModel_check) (lt_fl kModel_check).1 (lt_fl kModel_check).2 (lt_r kModel_check) (lt_b kModel_check) (pc_Model_check) (pc_Model_check 0) (i_Model_check_0) = true := by decide +kernel
theorem fit_Model_check_1 : sm_fit (lt_R kModel_check) (lt_n kModel_check) (lt_fl kModel_check).1 (lt_fl kModel_check).2 (lt_r kModel_check) (lt_b kModel_check) (pc_Model_check) (pc_Model_check 1) (i_Model_check_1) = true := by decide +kernel
theorem fit_Model_check_2 : sm_fit (lt_R kModel_check) (lt_n kModel_check) (lt_fl kModel_check).1 (lt_fl kModel_check).2 (lt_r kModel_check) (lt_b kModel_check) (pc_Model_check) (pc_Model_check 2) (i_Model_check_2) = true := by decide +kernel
theorem fit_Model_check_3 : sm_fit (lt_R kModel_check) (lt_n kModel_check) (lt_fl kModel_check).1 (lt_fl kModel_check).2 (lt_r kModel_check) (lt_b kModel_check) (pc_Model_check) (pc_Model_check 3) (i_Model_check_3) = true := by decide +kernel
theorem fit_Model_check_4 : sm_fit (lt_R kModel_check) (lt_n kModel_check) (lt_fl kModel_check).1 (lt_fl kModel_check).2 (lt_r kModel_check) (lt_b kModel_check) (pc_Model_check) (pc_Model_check 4) (i_Model_check_4) = true := by decide +kernel
theorem fit_Model_check_5 : sm_fit (lt_R kModel_check) (lt_n kModel_check) (lt_fl kModel_check).1 (lt_fl kModel_check).2 (lt_r kModel_check) (lt_b kModel_check) (pc_Model_check) (pc_Model_check 5) (i_Model_check_5) = true := by decide +kernel
theorem fit_Model_check_6 : sm_fit (lt_R kModel_check) (lt_n kModel_check) (lt_fl kModel_check).1 (lt_fl kModel_check).2 (lt_r kModel_check) (lt_b kModel_check) (pc_Model_check) (pc_Model_check 6) (i_Model_check_6) = true := by decide +kernel
theorem fit_Model_error_0 : sm_fit (lt_R kModel_error) (lt_n kModel_error) (lt_fl kModel_error).1 (lt_fl kModel_error).2 (lt_r kModel_error) (lt_b kModel_error) (pc_Model_error) (pc_Model_error 0) (i_Model_error_0) = true := by decide +kernel
theorem fit_Model_error_1 : sm_fit (lt_R kModel_error) (lt_n kModel_error) (lt_fl kModel_error).1 (lt_fl kModel_error).2 (lt_r kModel_error) (lt_b kModel_error) (pc_Model_error) (pc_Model_error 1) (i_Model_error_1) = true := by decide +kernel
theorem fit_Model_error_2 : sm_fit (lt_R kModel_error) (lt_n kModel_error) (lt_fl kModel_error).1 (lt_fl kModel_error).2 (lt_r kModel_error) (lt_b kModel_error) (pc_Model_error) (pc_Model_error 2) (i_Model_error_2) = true := by decide +kernel
theorem fit_Model_error_3 : sm_fit (lt_R kModel_error) (lt_n kModel_error) (lt_fl kModel_error).1 (lt_fl kModel_error).2 (lt_r kModel_error) (lt_b kModel_error) (pc_Model_error) (pc_Model_error 3) (i_Model_error_3) = true := by decide +kernel
theorem fit_Model_error_4 : sm_fit (lt_R kModel_error) (lt_n kModel_error) (lt_fl kModel_error).1 (lt_fl kModel_error).2 (lt_r kModel_error) (lt_b kModel_error) (pc_Model_error) (pc_Model_error 4) (i_Model_error_4) = true := by decide +kernel
theorem fit_Model_error_5 : sm_fit (lt_R kModel_error) (lt_n kModel_error) (lt_fl kModel_error).1 (lt_fl kModel_error).2 (lt_r kModel_error) (lt_b kModel_error) (pc_Model_error) (pc_Model_error 5) (i_Model_error_5) = true := by decide +kernel
theorem fit_Model_error_6 : sm_fit (lt_R kModel_error) (lt_n kModel_error) (lt_fl kModel_error).1 (lt_fl kModel_error).2 (lt_r kModel_error) (lt_b kModel_error) (pc_Model_error) (pc_Model_error 6) (i_Model_error_6) = true := by decide +kernel
theorem fit_Model_error_7 : sm_fit (lt_R kModel_error) (lt_n kModel_error) (lt_fl kModel_error).1 (lt_fl kModel_error).2 (lt_r kModel_error) (lt_b kModel_error) (pc_Model_error) (pc_Model_error 7) (i_Model_error_7) = true := by decide +kernel
theorem fit_Model_error_8 : sm_fit (lt_R kModel_error) (lt_n kModel_error) (lt_fl kModel_error).1 (lt_fl kModel_error).2 (lt_r kModel_error) (lt_b kModel_error) (pc_Model_error) (pc_Model_error 8) (i_Model_error_8) = true := by decide +kernel
theorem fit_Model_error_9 : sm_fit (lt_R kModel_error) (lt_n kModel_error) (lt_fl kModel_error).1 (lt_fl kModel_error).2 (lt_r kModel_error) (lt_b kModel_error) (pc_Model_error) (pc_Model_error 9) (i_Model_error_9) = true := by decide +kernel
theorem fit_Model_borrower_0 : sm_fit (lt_R kModel_borrower) (lt_n kModel_borrower) (lt_fl kModel_borrower).1 (lt_fl kModel_borrower).2 (lt_r kModel_borrower) (lt_b kModel_borrower) (pc_Model_borrower) (pc_Model_borrower 0) (i_Model_borrower_0) = true := by decide +kernel
theorem fit_Model_borrower_1 : sm_fit (lt_R kModel_borrower) (lt_n kModel_borrower) (lt_fl kModel_borrower).1 (lt_fl kModel_borrower).2 (lt_r kModel_borrower) (lt_b kModel_borrower) (pc_Model_borrower) (pc_Model_borrower 1) (i_Model_borrower_1) = true := by decide +kernel
theorem fit_Model_borrower_2 : sm_fit (lt_R kModel_borrower) (lt_n kModel_borrower) (lt_fl kModel_borrower).1 (lt_fl kModel_borrower).2 (lt_r kModel_borrower) (lt_b kModel_borrower) (pc_Model_borrower) (pc_Model_borrower 2) (i_Model_borrower_2) = true := by decide +kernel
theorem fit_Model_borrower_3 : sm_fit (lt_R kModel_borrower) (lt_n kModel_borrower) (lt_fl kModel_borrower).1 (lt_fl kModel_borrower).2 (lt_r kModel_borrower) (lt_b kModel_borrower) (pc_Model_borrower) (pc_Model_borrower 3) (i_Model_borrower_3) = true := by decide +kernel
theorem fit_Model_borrower_4 : sm_fit (lt_R kModel_borrower) (lt_n kModel_borrower) (lt_fl kModel_borrower).1 (lt_fl kModel_borrower).2 (lt_r kModel_borrower) (lt_b kModel_borrower) (pc_Model_borrower) (pc_Model_borrower 4) (i_Model_borrower_4) = true := by decide +kernel
theorem fit_Model_borrower_5 : sm_fit (lt_R kModel_borrower) (lt_n kModel_borrower) (lt_fl kModel_borrower).1 (lt_fl kModel_borrower).2 (lt_r kModel_borrower) (lt_b kModel_borrower) (pc_Model_borrower) (pc_Model_borrower 5) (i_Model_borrower_5) = true := by decide +kernel
theorem fit_Model_borrower_6 : sm_fit (lt_R kModel_borrower) (lt_n kModel_borrower) (lt_fl kModel_borrower).1 (lt_fl kModel_borrower).2 (lt_r kModel_borrower) (lt_b kModel_borrower) (pc_Model_borrower) (pc_Model_borrower 6) (i_Model_borrower_6) = true := by decide +kernel
theorem fit_Model_borrower_7 : sm_fit (lt_R kModel_borrower) (lt_n kModel_borrower) (lt_fl kModel_borrower).1 (lt_fl kModel_borrower).2 (lt_r kModel_borrower) (lt_b kModel_borrower) (pc_Model_borrower) (pc_Model_borrower 7) (i_Model_borrower_7) = true := by decide +kernel
theorem fit_Model_borrower_8 : sm_fit (lt_R kModel_borrower) (lt_n kModel_borrower) (lt_fl kModel_borrower).1 (lt_fl kModel_borrower).2 (lt_r kModel_borrower) (lt_b kModel_borrower) (pc_Model_borrower) (pc_Model_borrower 8) (i_Model_borrower_8) = true := by decide +kernel
theorem fit_Model_borrower_9 : sm_fit (lt_R kModel_borrower) (lt_n kModel_borrower) (lt_fl kModel_borrower).1 (lt_fl kModel_borrower).2 (lt_r kModel_borrower) (lt_b kModel_borrower) (pc_Model_borrower) (pc_Model_borrower 9) (i_Model_borrower_9) = true := by decide +kernel
theorem fit_Model_borrower_10 : sm_fit (lt_R kModel_borrower) (lt_n kModel_borrower) (lt_fl kModel_borrower).1 (lt_fl kModel_borrower).2 (lt_r kModel_borrower) (lt_b kModel_borrower) (pc_Model_borrower) (pc_Model_borrower 10) (i_Model_borrower_10) = true := by decide +kernel
theorem fit_Model_borrower_11 : sm_fit (lt_R kModel_borrower) (lt_n kModel_borrower) (lt_fl kModel_borrower).1 (lt_fl kModel_borrower).2 (lt_r kModel_borrower) (lt_b kModel_borrower) (pc_Model_borrower) (pc_Model_borrower 11) (i_Model_borrower_11) = true := by decide +kernel
theorem fit_Model_borrower_12 : sm_fit (lt_R kModel_borrower) (lt_n kModel_borrower) (lt_fl kModel_borrower).1 (lt_fl kModel_borrower).2 (lt_r kModel_borrower) (lt_b kModel_borrower) (pc_Model_borrower) (pc_Model_borrower 12) (i_Model_borrower_12) = true := by decide +kernel
theorem fit_Model_isNode_0 : sm_fit (lt_R kModel_isNode) (lt_n kModel_isNode) (lt_fl kModel_isNode).1 (lt_fl kModel_isNode).2 (lt_r kModel_isNode) (lt_b kModel_isNode) (pc_Model_isNode) (pc_Model_isNode 0) (i_Model_isNode_0) = true := by decide +kernel
theorem fit_Model_isNode_1 : sm_fit (lt_R kModel_isNode) (lt_n kModel_isNode) (lt_fl kModel_isNode).1 (lt_fl kModel_isNode).2 (lt_r kModel_isNode) (lt_b kModel_isNode) (pc_Model_isNode) (pc_Model_isNode 1) (i_Model_isNode_1) = true := by decide +kernel
theorem fit_Model_isNode_2 : sm_fit (lt_R kModel_isNode) (lt_n kModel_isNode) (lt_fl kModel_isNode).1 (lt_fl kModel_isNode).2 (lt_r kModel_isNode) (lt_b kModel_isNode) (pc_Model_isNode) (pc_Model_isNode 2) (i_Model_isNode_2) = true := by decide +kernel
theorem fit_Model_isNode_3 : sm_fit (lt_R kModel_isNode) (lt_n kModel_isNode) (lt_fl kModel_isNode).1 (lt_fl kModel_isNode).2 (lt_r kModel_isNode) (lt_b kModel_isNode) (pc_Model_isNode) (pc_Model_isNode 3) (i_Model_isNode_3) = true := by decide +kernel
theorem fit_Model_isNode_4 : sm_fit (lt_R kModel_isNode) (lt_n kModel_isNode) (lt_fl kModel_isNode).1 (lt_fl kModel_isNode).2 (lt_r kModel_isNode) (lt_b kModel_isNode) (pc_Model_isNode) (pc_Model_isNode 4) (i_Model_isNode_4) = true := by decide +kernel
theorem fit_Model_holds_0 : sm_fit (lt_R kModel_holds) (lt_n kModel_holds) (lt_fl kModel_holds).1 (lt_fl kModel_holds).2 (lt_r kModel_holds) (lt_b kModel_holds) (pc_Model_holds) (pc_Model_holds 0) (i_Model_holds_0) = true := by decide +kernel
theorem fit_Model_holds_1 : sm_fit (lt_R kModel_holds) (lt_n kModel_holds) (lt_fl kModel_holds).1 (lt_fl kModel_holds).2 (lt_r kModel_holds) (lt_b kModel_holds) (pc_Model_holds) (pc_Model_holds 1) (i_Model_holds_1) = true := by decide +kernel
theorem fit_Model_holds_2 : sm_fit (lt_R kModel_holds) (lt_n kModel_holds) (lt_fl kModel_holds).1 (lt_fl kModel_holds).2 (lt_r kModel_holds) (lt_b kModel_holds) (pc_Model_holds) (pc_Model_holds 2) (i_Model_holds_2) = true := by decide +kernel
theorem fit_Model_holds_3 : sm_fit (lt_R kModel_holds) (lt_n kModel_holds) (lt_fl kModel_holds).1 (lt_fl kModel_holds).2 (lt_r kModel_holds) (lt_b kModel_holds) (pc_Model_holds) (pc_Model_holds 3) (i_Model_holds_3) = true := by decide +kernel
theorem fit_Model_holds_4 : sm_fit (lt_R kModel_holds) (lt_n kModel_holds) (lt_fl kModel_holds).1 (lt_fl kModel_holds).2 (lt_r kModel_holds) (lt_b kModel_holds) (pc_Model_holds) (pc_Model_holds 4) (i_Model_holds_4) = true := by decide +kernel
theorem fit_Model_holds_5 : sm_fit (lt_R kModel_holds) (lt_n kModel_holds) (lt_fl kModel_holds).1 (lt_fl kModel_holds).2 (lt_r kModel_holds) (lt_b kModel_holds) (pc_Model_holds) (pc_Model_holds 5) (i_Model_holds_5) = true := by decide +kernel
theorem fit_Model_holds_6 : sm_fit (lt_R kModel_holds) (lt_n kModel_holds) (lt_fl kModel_holds).1 (lt_fl kModel_holds).2 (lt_r kModel_holds) (lt_b kModel_holds) (pc_Model_holds) (pc_Model_holds 6) (i_Model_holds_6) = true := by decide +kernel
theorem fit_Model_holds_7 : sm_fit (lt_R kModel_holds) (lt_n kModel_holds) (lt_fl kModel_holds).1 (lt_fl kModel_holds).2 (lt_r kModel_holds) (lt_b kModel_holds) (pc_Model_holds) (pc_Model_holds 7) (i_Model_holds_7) = true := by decide +kernel
theorem fit_Model_holds_8 : sm_fit (lt_R kModel_holds) (lt_n kModel_holds) (lt_fl kModel_holds).1 (lt_fl kModel_holds).2 (lt_r kModel_holds) (lt_b kModel_holds) (pc_Model_holds) (pc_Model_holds 8) (i_Model_holds_8) = true := by decide +kernel
theorem fit_Model_holds_9 : sm_fit (lt_R kModel_holds) (lt_n kModel_holds) (lt_fl kModel_holds).1 (lt_fl kModel_holds).2 (lt_r kModel_holds) (lt_b kModel_holds) (pc_Model_holds) (pc_Model_holds 9) (i_Model_holds_9) = true := by decide +kernel
theorem fit_Model_at_0 : sm_fit (lt_R kModel_at) (lt_n kModel_at) (lt_fl kModel_at).1 (lt_fl kModel_at).2 (lt_r kModel_at) (lt_b kModel_at) (pc_Model_at) (pc_Model_at 0) (i_Model_at_0) = true := by decide +kernel
theorem fit_Model_at_1 : sm_fit (lt_R kModel_at) (lt_n kModel_at) (lt_fl kModel_at).1 (lt_fl kModel_at).2 (lt_r kModel_at) (lt_b kModel_at) (pc_Model_at) (pc_Model_at 1) (i_Model_at_1) = true := by decide +kernel
theorem fit_Model_at_2 : sm_fit (lt_R kModel_at) (lt_n kModel_at) (lt_fl kModel_at).1 (lt_fl kModel_at).2 (lt_r kModel_at) (lt_b kModel_at) (pc_Model_at) (pc_Model_at 2) (i_Model_at_2) = true := by decide +kernel
theorem fit_Model_at_3 : sm_fit (lt_R kModel_at) (lt_n kModel_at) (lt_fl kModel_at).1 (lt_fl kModel_at).2 (lt_r kModel_at) (lt_b kModel_at) (pc_Model_at) (pc_Model_at 3) (i_Model_at_3) = true := by decide +kernel
theorem fit_Model_at_4 : sm_fit (lt_R kModel_at) (lt_n kModel_at) (lt_fl kModel_at).1 (lt_fl kModel_at).2 (lt_r kModel_at) (lt_b kModel_at) (pc_Model_at) (pc_Model_at 4) (i_Model_at_4) = true := by decide +kernel
theorem fit_Model_at_5 : sm_fit (lt_R kModel_at) (lt_n kModel_at) (lt_fl kModel_at).1 (lt_fl kModel_at).2 (lt_r kModel_at) (lt_b kModel_at) (pc_Model_at) (pc_Model_at 5) (i_Model_at_5) = true := by decide +kernel
theorem fit_Model_at_6 : sm_fit (lt_R kModel_at) (lt_n kModel_at) (lt_fl kModel_at).1 (lt_fl kModel_at).2 (lt_r kModel_at) (lt_b kModel_at) (pc_Model_at) (pc_Model_at 6) (i_Model_at_6) = true := by decide +kernel
theorem fit_Model_at_7 : sm_fit (lt_R kModel_at) (lt_n kModel_at) (lt_fl kModel_at).1 (lt_fl kModel_at).2 (lt_r kModel_at) (lt_b kModel_at) (pc_Model_at) (pc_Model_at 7) (i_Model_at_7) = true := by decide +kernel
theorem fit_Model_at_8 : sm_fit (lt_R kModel_at) (lt_n kModel_at) (lt_fl kModel_at).1 (lt_fl kModel_at).2 (lt_r kModel_at) (lt_b kModel_at) (pc_Model_at) (pc_Model_at 8) (i_Model_at_8) = true := by decide +kernel
theorem fit_Model_at_9 : sm_fit (lt_R kModel_at) (lt_n kModel_at) (lt_fl kModel_at).1 (lt_fl kModel_at).2 (lt_r kModel_at) (lt_b kModel_at) (pc_Model_at) (pc_Model_at 9) (i_Model_at_9) = true := by decide +kernel
theorem fit_Model_lives_0 : sm_fit (lt_R kModel_lives) (lt_n kModel_lives) (lt_fl kModel_lives).1 (lt_fl kModel_lives).2 (lt_r kModel_lives) (lt_b kModel_lives) (pc_Model_lives) (pc_Model_lives 0) (i_Model_lives_0) = true := by decide +kernel
theorem fit_Model_lives_1 : sm_fit (lt_R kModel_lives) (lt_n kModel_lives) (lt_fl kModel_lives).1 (lt_fl kModel_lives).2 (lt_r kModel_lives) (lt_b kModel_lives) (pc_Model_lives) (pc_Model_lives 1) (i_Model_lives_1) = true := by decide +kernel
theorem fit_Model_lives_2 : sm_fit (lt_R kModel_lives) (lt_n kModel_lives) (lt_fl kModel_lives).1 (lt_fl kModel_lives).2 (lt_r kModel_lives) (lt_b kModel_lives) (pc_Model_lives) (pc_Model_lives 2) (i_Model_lives_2) = true := by decide +kernel
theorem fit_Model_lives_3 : sm_fit (lt_R kModel_lives) (lt_n kModel_lives) (lt_fl kModel_lives).1 (lt_fl kModel_lives).2 (lt_r kModel_lives) (lt_b kModel_lives) (pc_Model_lives) (pc_Model_lives 3) (i_Model_lives_3) = true := by decide +kernel
theorem fit_Model_lives_4 : sm_fit (lt_R kModel_lives) (lt_n kModel_lives) (lt_fl kModel_lives).1 (lt_fl kModel_lives).2 (lt_r kModel_lives) (lt_b kModel_lives) (pc_Model_lives) (pc_Model_lives 4) (i_Model_lives_4) = true := by decide +kernel
theorem fit_Model_lives_5 : sm_fit (lt_R kModel_lives) (lt_n kModel_lives) (lt_fl kModel_lives).1 (lt_fl kModel_lives).2 (lt_r kModel_lives) (lt_b kModel_lives) (pc_Model_lives) (pc_Model_lives 5) (i_Model_lives_5) = true := by decide +kernel
theorem fit_Model_waits_0 : sm_fit (lt_R kModel_waits) (lt_n kModel_waits) (lt_fl kModel_waits).1 (lt_fl kModel_waits).2 (lt_r kModel_waits) (lt_b kModel_waits) (pc_Model_waits) (pc_Model_waits 0) (i_Model_waits_0) = true := by decide +kernel
theorem fit_Model_waits_1 : sm_fit (lt_R kModel_waits) (lt_n kModel_waits) (lt_fl kModel_waits).1 (lt_fl kModel_waits).2 (lt_r kModel_waits) (lt_b kModel_waits) (pc_Model_waits) (pc_Model_waits 1) (i_Model_waits_1) = true := by decide +kernel
theorem fit_Model_waits_2 : sm_fit (lt_R kModel_waits) (lt_n kModel_waits) (lt_fl kModel_waits).1 (lt_fl kModel_waits).2 (lt_r kModel_waits) (lt_b kModel_waits) (pc_Model_waits) (pc_Model_waits 2) (i_Model_waits_2) = true := by decide +kernel
theorem fit_Model_waits_3 : sm_fit (lt_R kModel_waits) (lt_n kModel_waits) (lt_fl kModel_waits).1 (lt_fl kModel_waits).2 (lt_r kModel_waits) (lt_b kModel_waits) (pc_Model_waits) (pc_Model_waits 3) (i_Model_waits_3) = true := by decide +kernel
theorem fit_Model_waits_4 : sm_fit (lt_R kModel_waits) (lt_n kModel_waits) (lt_fl kModel_waits).1 (lt_fl kModel_waits).2 (lt_r kModel_waits) (lt_b kModel_waits) (pc_Model_waits) (pc_Model_waits 4) (i_Model_waits_4) = true := by decide +kernel
theorem fit_Model_waits_5 : sm_fit (lt_R kModel_waits) (lt_n kModel_waits) (lt_fl kModel_waits).1 (lt_fl kModel_waits).2 (lt_r kModel_waits) (lt_b kModel_waits) (pc_Model_waits) (pc_Model_waits 5) (i_Model_waits_5) = true := by decide +kernel
theorem fit_Model_reads_0 : sm_fit (lt_R kModel_reads) (lt_n kModel_reads) (lt_fl kModel_reads).1 (lt_fl kModel_reads).2 (lt_r kModel_reads) (lt_b kModel_reads) (pc_Model_reads) (pc_Model_reads 0) (i_Model_reads_0) = true := by decide +kernel
theorem fit_Model_reads_1 : sm_fit (lt_R kModel_reads) (lt_n kModel_reads) (lt_fl kModel_reads).1 (lt_fl kModel_reads).2 (lt_r kModel_reads) (lt_b kModel_reads) (pc_Model_reads) (pc_Model_reads 1) (i_Model_reads_1) = true := by decide +kernel
theorem fit_Model_reads_2 : sm_fit (lt_R kModel_reads) (lt_n kModel_reads) (lt_fl kModel_reads).1 (lt_fl kModel_reads).2 (lt_r kModel_reads) (lt_b kModel_reads) (pc_Model_reads) (pc_Model_reads 2) (i_Model_reads_2) = true := by decide +kernel
theorem fit_Model_reads_3 : sm_fit (lt_R kModel_reads) (lt_n kModel_reads) (lt_fl kModel_reads).1 (lt_fl kModel_reads).2 (lt_r kModel_reads) (lt_b kModel_reads) (pc_Model_reads) (pc_Model_reads 3) (i_Model_reads_3) = true := by decide +kernel
theorem fit_Model_reads_4 : sm_fit (lt_R kModel_reads) (lt_n kModel_reads) (lt_fl kModel_reads).1 (lt_fl kModel_reads).2 (lt_r kModel_reads) (lt_b kModel_reads) (pc_Model_reads) (pc_Model_reads 4) (i_Model_reads_4) = true := by decide +kernel
theorem fit_Model_reads_5 : sm_fit (lt_R kModel_reads) (lt_n kModel_reads) (lt_fl kModel_reads).1 (lt_fl kModel_reads).2 (lt_r kModel_reads) (lt_b kModel_reads) (pc_Model_reads) (pc_Model_reads 5) (i_Model_reads_5) = true := by decide +kernel
theorem fit_Model_reads_6 : sm_fit (lt_R kModel_reads) (lt_n kModel_reads) (lt_fl kModel_reads).1 (lt_fl kModel_reads).2 (lt_r kModel_reads) (lt_b kModel_reads) (pc_Model_reads) (pc_Model_reads 6) (i_Model_reads_6) = true := by decide +kernel
theorem fit_Model_reads_7 : sm_fit (lt_R kModel_reads) (lt_n kModel_reads) (lt_fl kModel_reads).1 (lt_fl kModel_reads).2 (lt_r kModel_reads) (lt_b kModel_reads) (pc_Model_reads) (pc_Model_reads 7) (i_Model_reads_7) = true := by decide +kernel
theorem fit_Model_reads_8 : sm_fit (lt_R kModel_reads) (lt_n kModel_reads) (lt_fl kModel_reads).1 (lt_fl kModel_reads).2 (lt_r kModel_reads) (lt_b kModel_reads) (pc_Model_reads) (pc_Model_reads 8) (i_Model_reads_8) = true := by decide +kernel
theorem fit_Model_reads_9 : sm_fit (lt_R kModel_reads) (lt_n kModel_reads) (lt_fl kModel_reads).1 (lt_fl kModel_reads).2 (lt_r kModel_reads) (lt_b kModel_reads) (pc_Model_reads) (pc_Model_reads 9) (i_Model_reads_9) = true := by decide +kernel
theorem fit_Model_keeps_0 : sm_fit (lt_R kModel_keeps) (lt_n kModel_keeps) (lt_fl kModel_keeps).1 (lt_fl kModel_keeps).2 (lt_r kModel_keeps) (lt_b kModel_keeps) (pc_Model_keeps) (pc_Model_keeps 0) (i_Model_keeps_0) = true := by decide +kernel
theorem fit_Model_keeps_1 : sm_fit (lt_R kModel_keeps) (lt_n kModel_keeps) (lt_fl kModel_keeps).1 (lt_fl kModel_keeps).2 (lt_r kModel_keeps) (lt_b kModel_keeps) (pc_Model_keeps) (pc_Model_keeps 1) (i_Model_keeps_1) = true := by decide +kernel
theorem fit_Model_keeps_2 : sm_fit (lt_R kModel_keeps) (lt_n kModel_keeps) (lt_fl kModel_keeps).1 (lt_fl kModel_keeps).2 (lt_r kModel_keeps) (lt_b kModel_keeps) (pc_Model_keeps) (pc_Model_keeps 2) (i_Model_keeps_2) = true := by decide +kernel
theorem fit_Model_keeps_3 : sm_fit (lt_R kModel_keeps) (lt_n kModel_keeps) (lt_fl kModel_keeps).1 (lt_fl kModel_keeps).2 (lt_r kModel_keeps) (lt_b kModel_keeps) (pc_Model_keeps) (pc_Model_keeps 3) (i_Model_keeps_3) = true := by decide +kernel
theorem fit_Model_keeps_4 : sm_fit (lt_R kModel_keeps) (lt_n kModel_keeps) (lt_fl kModel_keeps).1 (lt_fl kModel_keeps).2 (lt_r kModel_keeps) (lt_b kModel_keeps) (pc_Model_keeps) (pc_Model_keeps 4) (i_Model_keeps_4) = true := by decide +kernel
theorem fit_Model_keeps_5 : sm_fit (lt_R kModel_keeps) (lt_n kModel_keeps) (lt_fl kModel_keeps).1 (lt_fl kModel_keeps).2 (lt_r kModel_keeps) (lt_b kModel_keeps) (pc_Model_keeps) (pc_Model_keeps 5) (i_Model_keeps_5) = true := by decide +kernel
theorem fit_Model_keeps_6 : sm_fit (lt_R kModel_keeps) (lt_n kModel_keeps) (lt_fl kModel_keeps).1 (lt_fl kModel_keeps).2 (lt_r kModel_keeps) (lt_b kModel_keeps) (pc_Model_keeps) (pc_Model_keeps 6) (i_Model_keeps_6) = true := by decide +kernel
theorem fit_Model_keeps_7 : sm_fit (lt_R kModel_keeps) (lt_n kModel_keeps) (lt_fl kModel_keeps).1 (lt_fl kModel_keeps).2 (lt_r kModel_keeps) (lt_b kModel_keeps) (pc_Model_keeps) (pc_Model_keeps 7) (i_Model_keeps_7) = true := by decide +kernel
theorem fit_Model_keeps_8 : sm_fit (lt_R kModel_keeps) (lt_n kModel_keeps) (lt_fl kModel_keeps).1 (lt_fl kModel_keeps).2 (lt_r kModel_keeps) (lt_b kModel_keeps) (pc_Model_keeps) (pc_Model_keeps 8) (i_Model_keeps_8) = true := by decide +kernel
theorem fit_Model_keeps_9 : sm_fit (lt_R kModel_keeps) (lt_n kModel_keeps) (lt_fl kModel_keeps).1 (lt_fl kModel_keeps).2 (lt_r kModel_keeps) (lt_b kModel_keeps) (pc_Model_keeps) (pc_Model_keeps 9) (i_Model_keeps_9) = true := by decide +kernel
theorem fit_Model_keeps_10 : sm_fit (lt_R kModel_keeps) (lt_n kModel_keeps) (lt_fl kModel_keeps).1 (lt_fl kModel_keeps).2 (lt_r kModel_keeps) (lt_b kModel_keeps) (pc_Model_keeps) (pc_Model_keeps 10) (i_Model_keeps_10) = true := by decide +kernel
theorem fit_Model_keeps_11 : sm_fit (lt_R kModel_keeps) (lt_n kModel_keeps) (lt_fl kModel_keeps).1 (lt_fl kModel_keeps).2 (lt_r kModel_keeps) (lt_b kModel_keeps) (pc_Model_keeps) (pc_Model_keeps 11) (i_Model_keeps_11) = true := by decide +kernel
theorem fit_Model_keeps_12 : sm_fit (lt_R kModel_keeps) (lt_n kModel_keeps) (lt_fl kModel_keeps).1 (lt_fl kModel_keeps).2 (lt_r kModel_keeps) (lt_b kModel_keeps) (pc_Model_keeps) (pc_Model_keeps 12) (i_Model_keeps_12) = true := by decide +kernel
theorem fit_Model_keeps_13 : sm_fit (lt_R kModel_keeps) (lt_n kModel_keeps) (lt_fl kModel_keeps).1 (lt_fl kModel_keeps).2 (lt_r kModel_keeps) (lt_b kModel_keeps) (pc_Model_keeps) (pc_Model_keeps 13) (i_Model_keeps_13) = true := by decide +kernel
theorem fit_Model_keeps_14 : sm_fit (lt_R kModel_keeps) (lt_n kModel_keeps) (lt_fl kModel_keeps).1 (lt_fl kModel_keeps).2 (lt_r kModel_keeps) (lt_b kModel_keeps) (pc_Model_keeps) (pc_Model_keeps 14) (i_Model_keeps_14) = true := by decide +kernel
theorem fit_Model_keeps_15 : sm_fit (lt_R kModel_keeps) (lt_n kModel_keeps) (lt_fl kModel_keeps).1 (lt_fl kModel_keeps).2 (lt_r kModel_keeps) (lt_b kModel_keeps) (pc_Model_keeps) (pc_Model_keeps 15) (i_Model_keeps_15) = true := by decide +kernel
theorem fit_Model_keeps_16 : sm_fit (lt_R kModel_keeps) (lt_n kModel_keeps) (lt_fl kModel_keeps).1 (lt_fl kModel_keeps).2 (lt_r kModel_keeps) (lt_b kModel_keeps) (pc_Model_keeps) (pc_Model_keeps 16) (i_Model_keeps_16) = true := by decide +kernel
theorem fit_Model_keeps_17 : sm_fit (lt_R kModel_keeps) (lt_n kModel_keeps) (lt_fl kModel_keeps).1 (lt_fl kModel_keeps).2 (lt_r kModel_keeps) (lt_b kModel_keeps) (pc_Model_keeps) (pc_Model_keeps 17) (i_Model_keeps_17) = true := by decide +kernel
theorem fit_Model_sideOf_0 : sm_fit (lt_R kModel_sideOf) (lt_n kModel_sideOf) (lt_fl kModel_sideOf).1 (lt_fl kModel_sideOf).2 (lt_r kModel_sideOf) (lt_b kModel_sideOf) (pc_Model_sideOf) (pc_Model_sideOf 0) (i_Model_sideOf_0) = true := by decide +kernel
theorem fit_Model_sideOf_1 : sm_fit (lt_R kModel_sideOf) (lt_n kModel_sideOf) (lt_fl kModel_sideOf).1 (lt_fl kModel_sideOf).2 (lt_r kModel_sideOf) (lt_b kModel_sideOf) (pc_Model_sideOf) (pc_Model_sideOf 1) (i_Model_sideOf_1) = true := by decide +kernel
theorem fit_Model_sideOf_2 : sm_fit (lt_R kModel_sideOf) (lt_n kModel_sideOf) (lt_fl kModel_sideOf).1 (lt_fl kModel_sideOf).2 (lt_r kModel_sideOf) (lt_b kModel_sideOf) (pc_Model_sideOf) (pc_Model_sideOf 2) (i_Model_sideOf_2) = true := by decide +kernel
theorem fit_Model_sideOf_3 : sm_fit (lt_R kModel_sideOf) (lt_n kModel_sideOf) (lt_fl kModel_sideOf).1 (lt_fl kModel_sideOf).2 (lt_r kModel_sideOf) (lt_b kModel_sideOf) (pc_Model_sideOf) (pc_Model_sideOf 3) (i_Model_sideOf_3) = true := by decide +kernel
theorem fit_Model_sideOf_4 : sm_fit (lt_R kModel_sideOf) (lt_n kModel_sideOf) (lt_fl kModel_sideOf).1 (lt_fl kModel_sideOf).2 (lt_r kModel_sideOf) (lt_b kModel_sideOf) (pc_Model_sideOf) (pc_Model_sideOf 4) (i_Model_sideOf_4) = true := by decide +kernel
theorem fit_Model_sideOf_5 : sm_fit (lt_R kModel_sideOf) (lt_n kModel_sideOf) (lt_fl kModel_sideOf).1 (lt_fl kModel_sideOf).2 (lt_r kModel_sideOf) (lt_b kModel_sideOf) (pc_Model_sideOf) (pc_Model_sideOf 5) (i_Model_sideOf_5) = true := by decide +kernel
theorem fit_Model_sideOf_6 : sm_fit (lt_R kModel_sideOf) (lt_n kModel_sideOf) (lt_fl kModel_sideOf).1 (lt_fl kModel_sideOf).2 (lt_r kModel_sideOf) (lt_b kModel_sideOf) (pc_Model_sideOf) (pc_Model_sideOf 6) (i_Model_sideOf_6) = true := by decide +kernel
theorem fit_Model_stepsOn_0 : sm_fit (lt_R kModel_stepsOn) (lt_n kModel_stepsOn) (lt_fl kModel_stepsOn).1 (lt_fl kModel_stepsOn).2 (lt_r kModel_stepsOn) (lt_b kModel_stepsOn) (pc_Model_stepsOn) (pc_Model_stepsOn 0) (i_Model_stepsOn_0) = true := by decide +kernel
theorem fit_Model_stepsOn_1 : sm_fit (lt_R kModel_stepsOn) (lt_n kModel_stepsOn) (lt_fl kModel_stepsOn).1 (lt_fl kModel_stepsOn).2 (lt_r kModel_stepsOn) (lt_b kModel_stepsOn) (pc_Model_stepsOn) (pc_Model_stepsOn 1) (i_Model_stepsOn_1) = true := by decide +kernel
theorem fit_Model_stepsOn_2 : sm_fit (lt_R kModel_stepsOn) (lt_n kModel_stepsOn) (lt_fl kModel_stepsOn).1 (lt_fl kModel_stepsOn).2 (lt_r kModel_stepsOn) (lt_b kModel_stepsOn) (pc_Model_stepsOn) (pc_Model_stepsOn 2) (i_Model_stepsOn_2) = true := by decide +kernel
theorem fit_Model_stepsOn_3 : sm_fit (lt_R kModel_stepsOn) (lt_n kModel_stepsOn) (lt_fl kModel_stepsOn).1 (lt_fl kModel_stepsOn).2 (lt_r kModel_stepsOn) (lt_b kModel_stepsOn) (pc_Model_stepsOn) (pc_Model_stepsOn 3) (i_Model_stepsOn_3) = true := by decide +kernel
theorem fit_Model_stepsOn_4 : sm_fit (lt_R kModel_stepsOn) (lt_n kModel_stepsOn) (lt_fl kModel_stepsOn).1 (lt_fl kModel_stepsOn).2 (lt_r kModel_stepsOn) (lt_b kModel_stepsOn) (pc_Model_stepsOn) (pc_Model_stepsOn 4) (i_Model_stepsOn_4) = true := by decide +kernel
theorem fit_Model_stepsOn_5 : sm_fit (lt_R kModel_stepsOn) (lt_n kModel_stepsOn) (lt_fl kModel_stepsOn).1 (lt_fl kModel_stepsOn).2 (lt_r kModel_stepsOn) (lt_b kModel_stepsOn) (pc_Model_stepsOn) (pc_Model_stepsOn 5) (i_Model_stepsOn_5) = true := by decide +kernel
theorem fit_Model_stepsOn_6 : sm_fit (lt_R kModel_stepsOn) (lt_n kModel_stepsOn) (lt_fl kModel_stepsOn).1 (lt_fl kModel_stepsOn).2 (lt_r kModel_stepsOn) (lt_b kModel_stepsOn) (pc_Model_stepsOn) (pc_Model_stepsOn 6) (i_Model_stepsOn_6) = true := by decide +kernel
theorem fit_Model_stepsOn_7 : sm_fit (lt_R kModel_stepsOn) (lt_n kModel_stepsOn) (lt_fl kModel_stepsOn).1 (lt_fl kModel_stepsOn).2 (lt_r kModel_stepsOn) (lt_b kModel_stepsOn) (pc_Model_stepsOn) (pc_Model_stepsOn 7) (i_Model_stepsOn_7) = true := by decide +kernel
theorem fit_Model_stepsOn_8 : sm_fit (lt_R kModel_stepsOn) (lt_n kModel_stepsOn) (lt_fl kModel_stepsOn).1 (lt_fl kModel_stepsOn).2 (lt_r kModel_stepsOn) (lt_b kModel_stepsOn) (pc_Model_stepsOn) (pc_Model_stepsOn 8) (i_Model_stepsOn_8) = true := by decide +kernel
theorem fit_Model_stepsOn_9 : sm_fit (lt_R kModel_stepsOn) (lt_n kModel_stepsOn) (lt_fl kModel_stepsOn).1 (lt_fl kModel_stepsOn).2 (lt_r kModel_stepsOn) (lt_b kModel_stepsOn) (pc_Model_stepsOn) (pc_Model_stepsOn 9) (i_Model_stepsOn_9) = true := by decide +kernel
theorem fit_Model_stepsOn_10 : sm_fit (lt_R kModel_stepsOn) (lt_n kModel_stepsOn) (lt_fl kModel_stepsOn).1 (lt_fl kModel_stepsOn).2 (lt_r kModel_stepsOn) (lt_b kModel_stepsOn) (pc_Model_stepsOn) (pc_Model_stepsOn 10) (i_Model_stepsOn_10) = true := by decide +kernel
theorem fit_Model_stepsOn_11 : sm_fit (lt_R kModel_stepsOn) (lt_n kModel_stepsOn) (lt_fl kModel_stepsOn).1 (lt_fl kModel_stepsOn).2 (lt_r kModel_stepsOn) (lt_b kModel_stepsOn) (pc_Model_stepsOn) (pc_Model_stepsOn 11) (i_Model_stepsOn_11) = true := by decide +kernel
theorem fit_Model_stepsOn_12 : sm_fit (lt_R kModel_stepsOn) (lt_n kModel_stepsOn) (lt_fl kModel_stepsOn).1 (lt_fl kModel_stepsOn).2 (lt_r kModel_stepsOn) (lt_b kModel_stepsOn) (pc_Model_stepsOn) (pc_Model_stepsOn 12) (i_Model_stepsOn_12) = true := by decide +kernel
theorem fit_Model_stepsOn_13 : sm_fit (lt_R kModel_stepsOn) (lt_n kModel_stepsOn) (lt_fl kModel_stepsOn).1 (lt_fl kModel_stepsOn).2 (lt_r kModel_stepsOn) (lt_b kModel_stepsOn) (pc_Model_stepsOn) (pc_Model_stepsOn 13) (i_Model_stepsOn_13) = true := by decide +kernel
theorem fit_Model_stepsOn_14 : sm_fit (lt_R kModel_stepsOn) (lt_n kModel_stepsOn) (lt_fl kModel_stepsOn).1 (lt_fl kModel_stepsOn).2 (lt_r kModel_stepsOn) (lt_b kModel_stepsOn) (pc_Model_stepsOn) (pc_Model_stepsOn 14) (i_Model_stepsOn_14) = true := by decide +kernel
theorem fit_Model_stepsOn_15 : sm_fit (lt_R kModel_stepsOn) (lt_n kModel_stepsOn) (lt_fl kModel_stepsOn).1 (lt_fl kModel_stepsOn).2 (lt_r kModel_stepsOn) (lt_b kModel_stepsOn) (pc_Model_stepsOn) (pc_Model_stepsOn 15) (i_Model_stepsOn_15) = true := by decide +kernel
theorem fit_Model_stepsOn_16 : sm_fit (lt_R kModel_stepsOn) (lt_n kModel_stepsOn) (lt_fl kModel_stepsOn).1 (lt_fl kModel_stepsOn).2 (lt_r kModel_stepsOn) (lt_b kModel_stepsOn) (pc_Model_stepsOn) (pc_Model_stepsOn 16) (i_Model_stepsOn_16) = true := by decide +kernel
theorem fit_Model_stepsOn_17 : sm_fit (lt_R kModel_stepsOn) (lt_n kModel_stepsOn) (lt_fl kModel_stepsOn).1 (lt_fl kModel_stepsOn).2 (lt_r kModel_stepsOn) (lt_b kModel_stepsOn) (pc_Model_stepsOn) (pc_Model_stepsOn 17) (i_Model_stepsOn_17) = true := by decide +kernel
theorem fit_Model_stepsOn_18 : sm_fit (lt_R kModel_stepsOn) (lt_n kModel_stepsOn) (lt_fl kModel_stepsOn).1 (lt_fl kModel_stepsOn).2 (lt_r kModel_stepsOn) (lt_b kModel_stepsOn) (pc_Model_stepsOn) (pc_Model_stepsOn 18) (i_Model_stepsOn_18) = true := by decide +kernel
theorem fit_Model_stepsOn_19 : sm_fit (lt_R kModel_stepsOn) (lt_n kModel_stepsOn) (lt_fl kModel_stepsOn).1 (lt_fl kModel_stepsOn).2 (lt_r kModel_stepsOn) (lt_b kModel_stepsOn) (pc_Model_stepsOn) (pc_Model_stepsOn 19) (i_Model_stepsOn_19) = true := by decide +kernel
theorem fit_Model_stepsOn_20 : sm_fit (lt_R kModel_stepsOn) (lt_n kModel_stepsOn) (lt_fl kModel_stepsOn).1 (lt_fl kModel_stepsOn).2 (lt_r kModel_stepsOn) (lt_b kModel_stepsOn) (pc_Model_stepsOn) (pc_Model_stepsOn 20) (i_Model_stepsOn_20) = true := by decide +kernel
theorem fit_Model_stepsOn_21 : sm_fit (lt_R kModel_stepsOn) (lt_n kModel_stepsOn) (lt_fl kModel_stepsOn).1 (lt_fl kModel_stepsOn).2 (lt_r kModel_stepsOn) (lt_b kModel_stepsOn) (pc_Model_stepsOn) (pc_Model_stepsOn 21) (i_Model_stepsOn_21) = true := by decide +kernel
theorem fit_Model_stepsOn_22 : sm_fit (lt_R kModel_stepsOn) (lt_n kModel_stepsOn) (lt_fl kModel_stepsOn).1 (lt_fl kModel_stepsOn).2 (lt_r kModel_stepsOn) (lt_b kModel_stepsOn) (pc_Model_stepsOn) (pc_Model_stepsOn 22) (i_Model_stepsOn_22) = true := by decide +kernel
theorem fit_Model_stepsOn_23 : sm_fit (lt_R kModel_stepsOn) (lt_n kModel_stepsOn) (lt_fl kModel_stepsOn).1 (lt_fl kModel_stepsOn).2 (lt_r kModel_stepsOn) (lt_b kModel_stepsOn) (pc_Model_stepsOn) (pc_Model_stepsOn 23) (i_Model_stepsOn_23) = true := by decide +kernel
theorem fit_Model_stepsOn_24 : sm_fit (lt_R kModel_stepsOn) (lt_n kModel_stepsOn) (lt_fl kModel_stepsOn).1 (lt_fl kModel_stepsOn).2 (lt_r kModel_stepsOn) (lt_b kModel_stepsOn) (pc_Model_stepsOn) (pc_Model_stepsOn 24) (i_Model_stepsOn_24) = true := by decide +kernel
theorem fit_Model_stepsOn_25 : sm_fit (lt_R kModel_stepsOn) (lt_n kModel_stepsOn) (lt_fl kModel_stepsOn).1 (lt_fl kModel_stepsOn).2 (lt_r kModel_stepsOn) (lt_b kModel_stepsOn) (pc_Model_stepsOn) (pc_Model_stepsOn 25) (i_Model_stepsOn_25) = true := by decide +kernel
theorem fit_Model_stepsOn_26 : sm_fit (lt_R kModel_stepsOn) (lt_n kModel_stepsOn) (lt_fl kModel_stepsOn).1 (lt_fl kModel_stepsOn).2 (lt_r kModel_stepsOn) (lt_b kModel_stepsOn) (pc_Model_stepsOn) (pc_Model_stepsOn 26) (i_Model_stepsOn_26) = true := by decide +kernel
theorem fit_Model_stepsOn_27 : sm_fit (lt_R kModel_stepsOn) (lt_n kModel_stepsOn) (lt_fl kModel_stepsOn).1 (lt_fl kModel_stepsOn).2 (lt_r kModel_stepsOn) (lt_b kModel_stepsOn) (pc_Model_stepsOn) (pc_Model_stepsOn 27) (i_Model_stepsOn_27) = true := by decide +kernel
theorem fit_Model_stepsOn_28 : sm_fit (lt_R kModel_stepsOn) (lt_n kModel_stepsOn) (lt_fl kModel_stepsOn).1 (lt_fl kModel_stepsOn).2 (lt_r kModel_stepsOn) (lt_b kModel_stepsOn) (pc_Model_stepsOn) (pc_Model_stepsOn 28) (i_Model_stepsOn_28) = true := by decide +kernel
theorem fit_Model_stepsOn_29 : sm_fit (lt_R kModel_stepsOn) (lt_n kModel_stepsOn) (lt_fl kModel_stepsOn).1 (lt_fl kModel_stepsOn).2 (lt_r kModel_stepsOn) (lt_b kModel_stepsOn) (pc_Model_stepsOn) (pc_Model_stepsOn 29) (i_Model_stepsOn_29) = true := by decide +kernel
theorem fit_Model_stuck_0 : sm_fit (lt_R kModel_stuck) (lt_n kModel_stuck) (lt_fl kModel_stuck).1 (lt_fl kModel_stuck).2 (lt_r kModel_stuck) (lt_b kModel_stuck) (pc_Model_stuck) (pc_Model_stuck 0) (i_Model_stuck_0) = true := by decide +kernel
theorem fit_Model_stuck_1 : sm_fit (lt_R kModel_stuck) (lt_n kModel_stuck) (lt_fl kModel_stuck).1 (lt_fl kModel_stuck).2 (lt_r kModel_stuck) (lt_b kModel_stuck) (pc_Model_stuck) (pc_Model_stuck 1) (i_Model_stuck_1) = true := by decide +kernel
theorem fit_Model_stuck_2 : sm_fit (lt_R kModel_stuck) (lt_n kModel_stuck) (lt_fl kModel_stuck).1 (lt_fl kModel_stuck).2 (lt_r kModel_stuck) (lt_b kModel_stuck) (pc_Model_stuck) (pc_Model_stuck 2) (i_Model_stuck_2) = true := by decide +kernel
theorem fit_Model_stuck_3 : sm_fit (lt_R kModel_stuck) (lt_n kModel_stuck) (lt_fl kModel_stuck).1 (lt_fl kModel_stuck).2 (lt_r kModel_stuck) (lt_b kModel_stuck) (pc_Model_stuck) (pc_Model_stuck 3) (i_Model_stuck_3) = true := by decide +kernel
theorem fit_Model_stuck_4 : sm_fit (lt_R kModel_stuck) (lt_n kModel_stuck) (lt_fl kModel_stuck).1 (lt_fl kModel_stuck).2 (lt_r kModel_stuck) (lt_b kModel_stuck) (pc_Model_stuck) (pc_Model_stuck 4) (i_Model_stuck_4) = true := by decide +kernel
theorem fit_Model_stuck_5 : sm_fit (lt_R kModel_stuck) (lt_n kModel_stuck) (lt_fl kModel_stuck).1 (lt_fl kModel_stuck).2 (lt_r kModel_stuck) (lt_b kModel_stuck) (pc_Model_stuck) (pc_Model_stuck 5) (i_Model_stuck_5) = true := by decide +kernel
theorem fit_Model_stuck_6 : sm_fit (lt_R kModel_stuck) (lt_n kModel_stuck) (lt_fl kModel_stuck).1 (lt_fl kModel_stuck).2 (lt_r kModel_stuck) (lt_b kModel_stuck) (pc_Model_stuck) (pc_Model_stuck 6) (i_Model_stuck_6) = true := by decide +kernel
theorem fit_Model_stuck_7 : sm_fit (lt_R kModel_stuck) (lt_n kModel_stuck) (lt_fl kModel_stuck).1 (lt_fl kModel_stuck).2 (lt_r kModel_stuck) (lt_b kModel_stuck) (pc_Model_stuck) (pc_Model_stuck 7) (i_Model_stuck_7) = true := by decide +kernel
theorem fit_Model_stuck_8 : sm_fit (lt_R kModel_stuck) (lt_n kModel_stuck) (lt_fl kModel_stuck).1 (lt_fl kModel_stuck).2 (lt_r kModel_stuck) (lt_b kModel_stuck) (pc_Model_stuck) (pc_Model_stuck 8) (i_Model_stuck_8) = true := by decide +kernel
theorem fit_Model_stuck_9 : sm_fit (lt_R kModel_stuck) (lt_n kModel_stuck) (lt_fl kModel_stuck).1 (lt_fl kModel_stuck).2 (lt_r kModel_stuck) (lt_b kModel_stuck) (pc_Model_stuck) (pc_Model_stuck 9) (i_Model_stuck_9) = true := by decide +kernel
theorem fit_Model_stuck_10 : sm_fit (lt_R kModel_stuck) (lt_n kModel_stuck) (lt_fl kModel_stuck).1 (lt_fl kModel_stuck).2 (lt_r kModel_stuck) (lt_b kModel_stuck) (pc_Model_stuck) (pc_Model_stuck 10) (i_Model_stuck_10) = true := by decide +kernel
theorem fit_Model_stuck_11 : sm_fit (lt_R kModel_stuck) (lt_n kModel_stuck) (lt_fl kModel_stuck).1 (lt_fl kModel_stuck).2 (lt_r kModel_stuck) (lt_b kModel_stuck) (pc_Model_stuck) (pc_Model_stuck 11) (i_Model_stuck_11) = true := by decide +kernel
theorem fit_Model_stuck_12 : sm_fit (lt_R kModel_stuck) (lt_n kModel_stuck) (lt_fl kModel_stuck).1 (lt_fl kModel_stuck).2 (lt_r kModel_stuck) (lt_b kModel_stuck) (pc_Model_stuck) (pc_Model_stuck 12) (i_Model_stuck_12) = true := by decide +kernel
theorem fit_Model_stuck_13 : sm_fit (lt_R kModel_stuck) (lt_n kModel_stuck) (lt_fl kModel_stuck).1 (lt_fl kModel_stuck).2 (lt_r kModel_stuck) (lt_b kModel_stuck) (pc_Model_stuck) (pc_Model_stuck 13) (i_Model_stuck_13) = true := by decide +kernel
theorem fit_Model_stuck_14 : sm_fit (lt_R kModel_stuck) (lt_n kModel_stuck) (lt_fl kModel_stuck).1 (lt_fl kModel_stuck).2 (lt_r kModel_stuck) (lt_b kModel_stuck) (pc_Model_stuck) (pc_Model_stuck 14) (i_Model_stuck_14) = true := by decide +kernel
theorem fit_Model_stuck_15 : sm_fit (lt_R kModel_stuck) (lt_n kModel_stuck) (lt_fl kModel_stuck).1 (lt_fl kModel_stuck).2 (lt_r kModel_stuck) (lt_b kModel_stuck) (pc_Model_stuck) (pc_Model_stuck 15) (i_Model_stuck_15) = true := by decide +kernel
theorem fit_Model_stuck_16 : sm_fit (lt_R kModel_stuck) (lt_n kModel_stuck) (lt_fl kModel_stuck).1 (lt_fl kModel_stuck).2 (lt_r kModel_stuck) (lt_b kModel_stuck) (pc_Model_stuck) (pc_Model_stuck 16) (i_Model_stuck_16) = true := by decide +kernel
theorem fit_Model_stuck_17 : sm_fit (lt_R kModel_stuck) (lt_n kModel_stuck) (lt_fl kModel_stuck).1 (lt_fl kModel_stuck).2 (lt_r kModel_stuck) (lt_b kModel_stuck) (pc_Model_stuck) (pc_Model_stuck 17) (i_Model_stuck_17) = true := by decide +kernel
theorem fit_Model_stuck_18 : sm_fit (lt_R kModel_stuck) (lt_n kModel_stuck) (lt_fl kModel_stuck).1 (lt_fl kModel_stuck).2 (lt_r kModel_stuck) (lt_b kModel_stuck) (pc_Model_stuck) (pc_Model_stuck 18) (i_Model_stuck_18) = true := by decide +kernel
theorem fit_Model_stuck_19 : sm_fit (lt_R kModel_stuck) (lt_n kModel_stuck) (lt_fl kModel_stuck).1 (lt_fl kModel_stuck).2 (lt_r kModel_stuck) (lt_b kModel_stuck) (pc_Model_stuck) (pc_Model_stuck 19) (i_Model_stuck_19) = true := by decide +kernel
theorem fit_Model_stuck_20 : sm_fit (lt_R kModel_stuck) (lt_n kModel_stuck) (lt_fl kModel_stuck).1 (lt_fl kModel_stuck).2 (lt_r kModel_stuck) (lt_b kModel_stuck) (pc_Model_stuck) (pc_Model_stuck 20) (i_Model_stuck_20) = true := by decide +kernel
theorem fit_Model_stuck_21 : sm_fit (lt_R kModel_stuck) (lt_n kModel_stuck) (lt_fl kModel_stuck).1 (lt_fl kModel_stuck).2 (lt_r kModel_stuck) (lt_b kModel_stuck) (pc_Model_stuck) (pc_Model_stuck 21) (i_Model_stuck_21) = true := by decide +kernel
theorem fit_Model_stuck_22 : sm_fit (lt_R kModel_stuck) (lt_n kModel_stuck) (lt_fl kModel_stuck).1 (lt_fl kModel_stuck).2 (lt_r kModel_stuck) (lt_b kModel_stuck) (pc_Model_stuck) (pc_Model_stuck 22) (i_Model_stuck_22) = true := by decide +kernel
theorem fit_Model_stuck_23 : sm_fit (lt_R kModel_stuck) (lt_n kModel_stuck) (lt_fl kModel_stuck).1 (lt_fl kModel_stuck).2 (lt_r kModel_stuck) (lt_b kModel_stuck) (pc_Model_stuck) (pc_Model_stuck 23) (i_Model_stuck_23) = true := by decide +kernel
theorem fit_Model_stuck_24 : sm_fit (lt_R kModel_stuck) (lt_n kModel_stuck) (lt_fl kModel_stuck).1 (lt_fl kModel_stuck).2 (lt_r kModel_stuck) (lt_b kModel_stuck) (pc_Model_stuck) (pc_Model_stuck 24) (i_Model_stuck_24) = true := by decide +kernel
theorem fit_Model_stuck_25 : sm_fit (lt_R kModel_stuck) (lt_n kModel_stuck) (lt_fl kModel_stuck).1 (lt_fl kModel_stuck).2 (lt_r kModel_stuck) (lt_b kModel_stuck) (pc_Model_stuck) (pc_Model_stuck 25) (i_Model_stuck_25) = true := by decide +kernel
theorem fit_Model_stuck_26 : sm_fit (lt_R kModel_stuck) (lt_n kModel_stuck) (lt_fl kModel_stuck).1 (lt_fl kModel_stuck).2 (lt_r kModel_stuck) (lt_b kModel_stuck) (pc_Model_stuck) (pc_Model_stuck 26) (i_Model_stuck_26) = true := by decide +kernel
theorem fit_Model_stuck_27 : sm_fit (lt_R kModel_stuck) (lt_n kModel_stuck) (lt_fl kModel_stuck).1 (lt_fl kModel_stuck).2 (lt_r kModel_stuck) (lt_b kModel_stuck) (pc_Model_stuck) (pc_Model_stuck 27) (i_Model_stuck_27) = true := by decide +kernel
theorem fit_Model_stuck_28 : sm_fit (lt_R kModel_stuck) (lt_n kModel_stuck) (lt_fl kModel_stuck).1 (lt_fl kModel_stuck).2 (lt_r kModel_stuck) (lt_b kModel_stuck) (pc_Model_stuck) (pc_Model_stuck 28) (i_Model_stuck_28) = true := by decide +kernel
theorem fit_Model_stuck_29 : sm_fit (lt_R kModel_stuck) (lt_n kModel_stuck) (lt_fl kModel_stuck).1 (lt_fl kModel_stuck).2 (lt_r kModel_stuck) (lt_b kModel_stuck) (pc_Model_stuck) (pc_Model_stuck 29) (i_Model_stuck_29) = true := by decide +kernel
theorem fit_Model_stuck_30 : sm_fit (lt_R kModel_stuck) (lt_n kModel_stuck) (lt_fl kModel_stuck).1 (lt_fl kModel_stuck).2 (lt_r kModel_stuck) (lt_b kModel_stuck) (pc_Model_stuck) (pc_Model_stuck 30) (i_Model_stuck_30) = true := by decide +kernel
theorem fit_Model_stuck_31 : sm_fit (lt_R kModel_stuck) (lt_n kModel_stuck) (lt_fl kModel_stuck).1 (lt_fl kModel_stuck).2 (lt_r kModel_stuck) (lt_b kModel_stuck) (pc_Model_stuck) (pc_Model_stuck 31) (i_Model_stuck_31) = true := by decide +kernel
theorem fit_Model_stuck_32 : sm_fit (lt_R kModel_stuck) (lt_n kModel_stuck) (lt_fl kModel_stuck).1 (lt_fl kModel_stuck).2 (lt_r kModel_stuck) (lt_b kModel_stuck) (pc_Model_stuck) (pc_Model_stuck 32) (i_Model_stuck_32) = true := by decide +kernel
theorem fit_Model_stuck_33 : sm_fit (lt_R kModel_stuck) (lt_n kModel_stuck) (lt_fl kModel_stuck).1 (lt_fl kModel_stuck).2 (lt_r kModel_stuck) (lt_b kModel_stuck) (pc_Model_stuck) (pc_Model_stuck 33) (i_Model_stuck_33) = true := by decide +kernel
theorem fit_Model_stuck_34 : sm_fit (lt_R kModel_stuck) (lt_n kModel_stuck) (lt_fl kModel_stuck).1 (lt_fl kModel_stuck).2 (lt_r kModel_stuck) (lt_b kModel_stuck) (pc_Model_stuck) (pc_Model_stuck 34) (i_Model_stuck_34) = true := by decide +kernel
theorem fit_Model_stuck_35 : sm_fit (lt_R kModel_stuck) (lt_n kModel_stuck) (lt_fl kModel_stuck).1 (lt_fl kModel_stuck).2 (lt_r kModel_stuck) (lt_b kModel_stuck) (pc_Model_stuck) (pc_Model_stuck 35) (i_Model_stuck_35) = true := by decide +kernel
theorem fit_Model_begin_0 : sm_fit (lt_R kModel_begin) (lt_n kModel_begin) (lt_fl kModel_begin).1 (lt_fl kModel_begin).2 (lt_r kModel_begin) (lt_b kModel_begin) (pc_Model_begin) (pc_Model_begin 0) (i_Model_begin_0) = true := by decide +kernel
theorem fit_Model_begin_1 : sm_fit (lt_R kModel_begin) (lt_n kModel_begin) (lt_fl kModel_begin).1 (lt_fl kModel_begin).2 (lt_r kModel_begin) (lt_b kModel_begin) (pc_Model_begin) (pc_Model_begin 1) (i_Model_begin_1) = true := by decide +kernel
theorem fit_Model_begin_2 : sm_fit (lt_R kModel_begin) (lt_n kModel_begin) (lt_fl kModel_begin).1 (lt_fl kModel_begin).2 (lt_r kModel_begin) (lt_b kModel_begin) (pc_Model_begin) (pc_Model_begin 2) (i_Model_begin_2) = true := by decide +kernel
theorem fit_Model_begin_3 : sm_fit (lt_R kModel_begin) (lt_n kModel_begin) (lt_fl kModel_begin).1 (lt_fl kModel_begin).2 (lt_r kModel_begin) (lt_b kModel_begin) (pc_Model_begin) (pc_Model_begin 3) (i_Model_begin_3) = true := by decide +kernel
theorem fit_Model_begin_4 : sm_fit (lt_R kModel_begin) (lt_n kModel_begin) (lt_fl kModel_begin).1 (lt_fl kModel_begin).2 (lt_r kModel_begin) (lt_b kModel_begin) (pc_Model_begin) (pc_Model_begin 4) (i_Model_begin_4) = true := by decide +kernel
theorem fit_Model_begin_5 : sm_fit (lt_R kModel_begin) (lt_n kModel_begin) (lt_fl kModel_begin).1 (lt_fl kModel_begin).2 (lt_r kModel_begin) (lt_b kModel_begin) (pc_Model_begin) (pc_Model_begin 5) (i_Model_begin_5) = true := by decide +kernel
theorem fit_Model_begin_6 : sm_fit (lt_R kModel_begin) (lt_n kModel_begin) (lt_fl kModel_begin).1 (lt_fl kModel_begin).2 (lt_r kModel_begin) (lt_b kModel_begin) (pc_Model_begin) (pc_Model_begin 6) (i_Model_begin_6) = true := by decide +kernel
theorem fit_Model_begin_7 : sm_fit (lt_R kModel_begin) (lt_n kModel_begin) (lt_fl kModel_begin).1 (lt_fl kModel_begin).2 (lt_r kModel_begin) (lt_b kModel_begin) (pc_Model_begin) (pc_Model_begin 7) (i_Model_begin_7) = true := by decide +kernel
theorem fit_Model_begin_8 : sm_fit (lt_R kModel_begin) (lt_n kModel_begin) (lt_fl kModel_begin).1 (lt_fl kModel_begin).2 (lt_r kModel_begin) (lt_b kModel_begin) (pc_Model_begin) (pc_Model_begin 8) (i_Model_begin_8) = true := by decide +kernel
theorem fit_Model_begin_9 : sm_fit (lt_R kModel_begin) (lt_n kModel_begin) (lt_fl kModel_begin).1 (lt_fl kModel_begin).2 (lt_r kModel_begin) (lt_b kModel_begin) (pc_Model_begin) (pc_Model_begin 9) (i_Model_begin_9) = true := by decide +kernel
theorem fit_Model_goesAway_0 : sm_fit (lt_R kModel_goesAway) (lt_n kModel_goesAway) (lt_fl kModel_goesAway).1 (lt_fl kModel_goesAway).2 (lt_r kModel_goesAway) (lt_b kModel_goesAway) (pc_Model_goesAway) (pc_Model_goesAway 0) (i_Model_goesAway_0) = true := by decide +kernel
theorem fit_Model_goesAway_1 : sm_fit (lt_R kModel_goesAway) (lt_n kModel_goesAway) (lt_fl kModel_goesAway).1 (lt_fl kModel_goesAway).2 (lt_r kModel_goesAway) (lt_b kModel_goesAway) (pc_Model_goesAway) (pc_Model_goesAway 1) (i_Model_goesAway_1) = true := by decide +kernel
theorem fit_Model_goesAway_2 : sm_fit (lt_R kModel_goesAway) (lt_n kModel_goesAway) (lt_fl kModel_goesAway).1 (lt_fl kModel_goesAway).2 (lt_r kModel_goesAway) (lt_b kModel_goesAway) (pc_Model_goesAway) (pc_Model_goesAway 2) (i_Model_goesAway_2) = true := by decide +kernel
theorem fit_Model_ownerOf_0 : sm_fit (lt_R kModel_ownerOf) (lt_n kModel_ownerOf) (lt_fl kModel_ownerOf).1 (lt_fl kModel_ownerOf).2 (lt_r kModel_ownerOf) (lt_b kModel_ownerOf) (pc_Model_ownerOf) (pc_Model_ownerOf 0) (i_Model_ownerOf_0) = true := by decide +kernel
theorem fit_Model_ownerOf_1 : sm_fit (lt_R kModel_ownerOf) (lt_n kModel_ownerOf) (lt_fl kModel_ownerOf).1 (lt_fl kModel_ownerOf).2 (lt_r kModel_ownerOf) (lt_b kModel_ownerOf) (pc_Model_ownerOf) (pc_Model_ownerOf 1) (i_Model_ownerOf_1) = true := by decide +kernel
theorem fit_Model_ownerOf_2 : sm_fit (lt_R kModel_ownerOf) (lt_n kModel_ownerOf) (lt_fl kModel_ownerOf).1 (lt_fl kModel_ownerOf).2 (lt_r kModel_ownerOf) (lt_b kModel_ownerOf) (pc_Model_ownerOf) (pc_Model_ownerOf 2) (i_Model_ownerOf_2) = true := by decide +kernel
theorem fit_Model_ownerOf_3 : sm_fit (lt_R kModel_ownerOf) (lt_n kModel_ownerOf) (lt_fl kModel_ownerOf).1 (lt_fl kModel_ownerOf).2 (lt_r kModel_ownerOf) (lt_b kModel_ownerOf) (pc_Model_ownerOf) (pc_Model_ownerOf 3) (i_Model_ownerOf_3) = true := by decide +kernel
theorem fit_Model_ownerOf_4 : sm_fit (lt_R kModel_ownerOf) (lt_n kModel_ownerOf) (lt_fl kModel_ownerOf).1 (lt_fl kModel_ownerOf).2 (lt_r kModel_ownerOf) (lt_b kModel_ownerOf) (pc_Model_ownerOf) (pc_Model_ownerOf 4) (i_Model_ownerOf_4) = true := by decide +kernel
theorem fit_Model_ownerOf_5 : sm_fit (lt_R kModel_ownerOf) (lt_n kModel_ownerOf) (lt_fl kModel_ownerOf).1 (lt_fl kModel_ownerOf).2 (lt_r kModel_ownerOf) (lt_b kModel_ownerOf) (pc_Model_ownerOf) (pc_Model_ownerOf 5) (i_Model_ownerOf_5) = true := by decide +kernel
theorem fit_Model_ownerOf_6 : sm_fit (lt_R kModel_ownerOf) (lt_n kModel_ownerOf) (lt_fl kModel_ownerOf).1 (lt_fl kModel_ownerOf).2 (lt_r kModel_ownerOf) (lt_b kModel_ownerOf) (pc_Model_ownerOf) (pc_Model_ownerOf 6) (i_Model_ownerOf_6) = true := by decide +kernel
theorem fit_Model_holdsStill_0 : sm_fit (lt_R kModel_holdsStill) (lt_n kModel_holdsStill) (lt_fl kModel_holdsStill).1 (lt_fl kModel_holdsStill).2 (lt_r kModel_holdsStill) (lt_b kModel_holdsStill) (pc_Model_holdsStill) (pc_Model_holdsStill 0) (i_Model_holdsStill_0) = true := by decide +kernel
theorem fit_Model_holdsStill_1 : sm_fit (lt_R kModel_holdsStill) (lt_n kModel_holdsStill) (lt_fl kModel_holdsStill).1 (lt_fl kModel_holdsStill).2 (lt_r kModel_holdsStill) (lt_b kModel_holdsStill) (pc_Model_holdsStill) (pc_Model_holdsStill 1) (i_Model_holdsStill_1) = true := by decide +kernel
theorem fit_Model_holdsStill_2 : sm_fit (lt_R kModel_holdsStill) (lt_n kModel_holdsStill) (lt_fl kModel_holdsStill).1 (lt_fl kModel_holdsStill).2 (lt_r kModel_holdsStill) (lt_b kModel_holdsStill) (pc_Model_holdsStill) (pc_Model_holdsStill 2) (i_Model_holdsStill_2) = true := by decide +kernel
theorem fit_Model_holdsStill_3 : sm_fit (lt_R kModel_holdsStill) (lt_n kModel_holdsStill) (lt_fl kModel_holdsStill).1 (lt_fl kModel_holdsStill).2 (lt_r kModel_holdsStill) (lt_b kModel_holdsStill) (pc_Model_holdsStill) (pc_Model_holdsStill 3) (i_Model_holdsStill_3) = true := by decide +kernel
theorem fit_Model_holdsStill_4 : sm_fit (lt_R kModel_holdsStill) (lt_n kModel_holdsStill) (lt_fl kModel_holdsStill).1 (lt_fl kModel_holdsStill).2 (lt_r kModel_holdsStill) (lt_b kModel_holdsStill) (pc_Model_holdsStill) (pc_Model_holdsStill 4) (i_Model_holdsStill_4) = true := by decide +kernel
theorem fit_Model_holdsStill_5 : sm_fit (lt_R kModel_holdsStill) (lt_n kModel_holdsStill) (lt_fl kModel_holdsStill).1 (lt_fl kModel_holdsStill).2 (lt_r kModel_holdsStill) (lt_b kModel_holdsStill) (pc_Model_holdsStill) (pc_Model_holdsStill 5) (i_Model_holdsStill_5) = true := by decide +kernel
theorem fit_Model_holdsStill_6 : sm_fit (lt_R kModel_holdsStill) (lt_n kModel_holdsStill) (lt_fl kModel_holdsStill).1 (lt_fl kModel_holdsStill).2 (lt_r kModel_holdsStill) (lt_b kModel_holdsStill) (pc_Model_holdsStill) (pc_Model_holdsStill 6) (i_Model_holdsStill_6) = true := by decide +kernel
theorem fit_Model_holdsStill_7 : sm_fit (lt_R kModel_holdsStill) (lt_n kModel_holdsStill) (lt_fl kModel_holdsStill).1 (lt_fl kModel_holdsStill).2 (lt_r kModel_holdsStill) (lt_b kModel_holdsStill) (pc_Model_holdsStill) (pc_Model_holdsStill 7) (i_Model_holdsStill_7) = true := by decide +kernel
theorem fit_Model_leaves_0 : sm_fit (lt_R kModel_leaves) (lt_n kModel_leaves) (lt_fl kModel_leaves).1 (lt_fl kModel_leaves).2 (lt_r kModel_leaves) (lt_b kModel_leaves) (pc_Model_leaves) (pc_Model_leaves 0) (i_Model_leaves_0) = true := by decide +kernel
theorem fit_Model_leaves_1 : sm_fit (lt_R kModel_leaves) (lt_n kModel_leaves) (lt_fl kModel_leaves).1 (lt_fl kModel_leaves).2 (lt_r kModel_leaves) (lt_b kModel_leaves) (pc_Model_leaves) (pc_Model_leaves 1) (i_Model_leaves_1) = true := by decide +kernel
theorem fit_Model_leaves_2 : sm_fit (lt_R kModel_leaves) (lt_n kModel_leaves) (lt_fl kModel_leaves).1 (lt_fl kModel_leaves).2 (lt_r kModel_leaves) (lt_b kModel_leaves) (pc_Model_leaves) (pc_Model_leaves 2) (i_Model_leaves_2) = true := by decide +kernel
theorem fit_Model_leaves_3 : sm_fit (lt_R kModel_leaves) (lt_n kModel_leaves) (lt_fl kModel_leaves).1 (lt_fl kModel_leaves).2 (lt_r kModel_leaves) (lt_b kModel_leaves) (pc_Model_leaves) (pc_Model_leaves 3) (i_Model_leaves_3) = true := by decide +kernel
theorem fit_Model_owns_0 : sm_fit (lt_R kModel_owns) (lt_n kModel_owns) (lt_fl kModel_owns).1 (lt_fl kModel_owns).2 (lt_r kModel_owns) (lt_b kModel_owns) (pc_Model_owns) (pc_Model_owns 0) (i_Model_owns_0) = true := by decide +kernel
theorem fit_Model_uses_0 : sm_fit (lt_R kModel_uses) (lt_n kModel_uses) (lt_fl kModel_uses).1 (lt_fl kModel_uses).2 (lt_r kModel_uses) (lt_b kModel_uses) (pc_Model_uses) (pc_Model_uses 0) (i_Model_uses_0) = true := by decide +kernel
theorem fit_Model_uses_1 : sm_fit (lt_R kModel_uses) (lt_n kModel_uses) (lt_fl kModel_uses).1 (lt_fl kModel_uses).2 (lt_r kModel_uses) (lt_b kModel_uses) (pc_Model_uses) (pc_Model_uses 1) (i_Model_uses_1) = true := by decide +kernel
theorem fit_Model_uses_2 : sm_fit (lt_R kModel_uses) (lt_n kModel_uses) (lt_fl kModel_uses).1 (lt_fl kModel_uses).2 (lt_r kModel_uses) (lt_b kModel_uses) (pc_Model_uses) (pc_Model_uses 2) (i_Model_uses_2) = true := by decide +kernel
theorem fit_Model_uses_3 : sm_fit (lt_R kModel_uses) (lt_n kModel_uses) (lt_fl kModel_uses).1 (lt_fl kModel_uses).2 (lt_r kModel_uses) (lt_b kModel_uses) (pc_Model_uses) (pc_Model_uses 3) (i_Model_uses_3) = true := by decide +kernel
theorem fit_Model_uses_4 : sm_fit (lt_R kModel_uses) (lt_n kModel_uses) (lt_fl kModel_uses).1 (lt_fl kModel_uses).2 (lt_r kModel_uses) (lt_b kModel_uses) (pc_Model_uses) (pc_Model_uses 4) (i_Model_uses_4) = true := by decide +kernel
theorem fit_Model_uses_5 : sm_fit (lt_R kModel_uses) (lt_n kModel_uses) (lt_fl kModel_uses).1 (lt_fl kModel_uses).2 (lt_r kModel_uses) (lt_b kModel_uses) (pc_Model_uses) (pc_Model_uses 5) (i_Model_uses_5) = true := by decide +kernel
theorem fit_Model_uses_6 : sm_fit (lt_R kModel_uses) (lt_n kModel_uses) (lt_fl kModel_uses).1 (lt_fl kModel_uses).2 (lt_r kModel_uses) (lt_b kModel_uses) (pc_Model_uses) (pc_Model_uses 6) (i_Model_uses_6) = true := by decide +kernel
theorem fit_Model_isAtNeeded_0 : sm_fit (lt_R kModel_isAtNeeded) (lt_n kModel_isAtNeeded) (lt_fl kModel_isAtNeeded).1 (lt_fl kModel_isAtNeeded).2 (lt_r kModel_isAtNeeded) (lt_b kModel_isAtNeeded) (pc_Model_isAtNeeded) (pc_Model_isAtNeeded 0) (i_Model_isAtNeeded_0) = true := by decide +kernel
theorem fit_Model_isAtNeeded_1 : sm_fit (lt_R kModel_isAtNeeded) (lt_n kModel_isAtNeeded) (lt_fl kModel_isAtNeeded).1 (lt_fl kModel_isAtNeeded).2 (lt_r kModel_isAtNeeded) (lt_b kModel_isAtNeeded) (pc_Model_isAtNeeded) (pc_Model_isAtNeeded 1) (i_Model_isAtNeeded_1) = true := by decide +kernel
theorem fit_Model_isAtNeeded_2 : sm_fit (lt_R kModel_isAtNeeded) (lt_n kModel_isAtNeeded) (lt_fl kModel_isAtNeeded).1 (lt_fl kModel_isAtNeeded).2 (lt_r kModel_isAtNeeded) (lt_b kModel_isAtNeeded) (pc_Model_isAtNeeded) (pc_Model_isAtNeeded 2) (i_Model_isAtNeeded_2) = true := by decide +kernel
theorem fit_Model_isAtNeeded_3 : sm_fit (lt_R kModel_isAtNeeded) (lt_n kModel_isAtNeeded) (lt_fl kModel_isAtNeeded).1 (lt_fl kModel_isAtNeeded).2 (lt_r kModel_isAtNeeded) (lt_b kModel_isAtNeeded) (pc_Model_isAtNeeded) (pc_Model_isAtNeeded 3) (i_Model_isAtNeeded_3) = true := by decide +kernel
theorem fit_Model_isAtNeeded_4 : sm_fit (lt_R kModel_isAtNeeded) (lt_n kModel_isAtNeeded) (lt_fl kModel_isAtNeeded).1 (lt_fl kModel_isAtNeeded).2 (lt_r kModel_isAtNeeded) (lt_b kModel_isAtNeeded) (pc_Model_isAtNeeded) (pc_Model_isAtNeeded 4) (i_Model_isAtNeeded_4) = true := by decide +kernel
theorem fit_Model_isAtNeeded_5 : sm_fit (lt_R kModel_isAtNeeded) (lt_n kModel_isAtNeeded) (lt_fl kModel_isAtNeeded).1 (lt_fl kModel_isAtNeeded).2 (lt_r kModel_isAtNeeded) (lt_b kModel_isAtNeeded) (pc_Model_isAtNeeded) (pc_Model_isAtNeeded 5) (i_Model_isAtNeeded_5) = true := by decide +kernel
theorem fit_Model_otherOf_0 : sm_fit (lt_R kModel_otherOf) (lt_n kModel_otherOf) (lt_fl kModel_otherOf).1 (lt_fl kModel_otherOf).2 (lt_r kModel_otherOf) (lt_b kModel_otherOf) (pc_Model_otherOf) (pc_Model_otherOf 0) (i_Model_otherOf_0) = true := by decide +kernel
theorem fit_Model_otherOf_1 : sm_fit (lt_R kModel_otherOf) (lt_n kModel_otherOf) (lt_fl kModel_otherOf).1 (lt_fl kModel_otherOf).2 (lt_r kModel_otherOf) (lt_b kModel_otherOf) (pc_Model_otherOf) (pc_Model_otherOf 1) (i_Model_otherOf_1) = true := by decide +kernel
theorem fit_Model_otherOf_2 : sm_fit (lt_R kModel_otherOf) (lt_n kModel_otherOf) (lt_fl kModel_otherOf).1 (lt_fl kModel_otherOf).2 (lt_r kModel_otherOf) (lt_b kModel_otherOf) (pc_Model_otherOf) (pc_Model_otherOf 2) (i_Model_otherOf_2) = true := by decide +kernel
theorem fit_Model_otherOf_3 : sm_fit (lt_R kModel_otherOf) (lt_n kModel_otherOf) (lt_fl kModel_otherOf).1 (lt_fl kModel_otherOf).2 (lt_r kModel_otherOf) (lt_b kModel_otherOf) (pc_Model_otherOf) (pc_Model_otherOf 3) (i_Model_otherOf_3) = true := by decide +kernel
theorem fit_Model_isWaiting_0 : sm_fit (lt_R kModel_isWaiting) (lt_n kModel_isWaiting) (lt_fl kModel_isWaiting).1 (lt_fl kModel_isWaiting).2 (lt_r kModel_isWaiting) (lt_b kModel_isWaiting) (pc_Model_isWaiting) (pc_Model_isWaiting 0) (i_Model_isWaiting_0) = true := by decide +kernel
theorem fit_Model_isWaiting_1 : sm_fit (lt_R kModel_isWaiting) (lt_n kModel_isWaiting) (lt_fl kModel_isWaiting).1 (lt_fl kModel_isWaiting).2 (lt_r kModel_isWaiting) (lt_b kModel_isWaiting) (pc_Model_isWaiting) (pc_Model_isWaiting 1) (i_Model_isWaiting_1) = true := by decide +kernel
theorem fit_Model_isWaiting_2 : sm_fit (lt_R kModel_isWaiting) (lt_n kModel_isWaiting) (lt_fl kModel_isWaiting).1 (lt_fl kModel_isWaiting).2 (lt_r kModel_isWaiting) (lt_b kModel_isWaiting) (pc_Model_isWaiting) (pc_Model_isWaiting 2) (i_Model_isWaiting_2) = true := by decide +kernel
theorem fit_Model_isWaiting_3 : sm_fit (lt_R kModel_isWaiting) (lt_n kModel_isWaiting) (lt_fl kModel_isWaiting).1 (lt_fl kModel_isWaiting).2 (lt_r kModel_isWaiting) (lt_b kModel_isWaiting) (pc_Model_isWaiting) (pc_Model_isWaiting 3) (i_Model_isWaiting_3) = true := by decide +kernel
theorem fit_Model_isWaiting_4 : sm_fit (lt_R kModel_isWaiting) (lt_n kModel_isWaiting) (lt_fl kModel_isWaiting).1 (lt_fl kModel_isWaiting).2 (lt_r kModel_isWaiting) (lt_b kModel_isWaiting) (pc_Model_isWaiting) (pc_Model_isWaiting 4) (i_Model_isWaiting_4) = true := by decide +kernel
theorem fit_Model_isWaiting_5 : sm_fit (lt_R kModel_isWaiting) (lt_n kModel_isWaiting) (lt_fl kModel_isWaiting).1 (lt_fl kModel_isWaiting).2 (lt_r kModel_isWaiting) (lt_b kModel_isWaiting) (pc_Model_isWaiting) (pc_Model_isWaiting 5) (i_Model_isWaiting_5) = true := by decide +kernel
theorem fit_Model_isWaiting_6 : sm_fit (lt_R kModel_isWaiting) (lt_n kModel_isWaiting) (lt_fl kModel_isWaiting).1 (lt_fl kModel_isWaiting).2 (lt_r kModel_isWaiting) (lt_b kModel_isWaiting) (pc_Model_isWaiting) (pc_Model_isWaiting 6) (i_Model_isWaiting_6) = true := by decide +kernel
theorem fit_Model_isWaiting_7 : sm_fit (lt_R kModel_isWaiting) (lt_n kModel_isWaiting) (lt_fl kModel_isWaiting).1 (lt_fl kModel_isWaiting).2 (lt_r kModel_isWaiting) (lt_b kModel_isWaiting) (pc_Model_isWaiting) (pc_Model_isWaiting 7) (i_Model_isWaiting_7) = true := by decide +kernel
theorem fit_Model_isWaiting_8 : sm_fit (lt_R kModel_isWaiting) (lt_n kModel_isWaiting) (lt_fl kModel_isWaiting).1 (lt_fl kModel_isWaiting).2 (lt_r kModel_isWaiting) (lt_b kModel_isWaiting) (pc_Model_isWaiting) (pc_Model_isWaiting 8) (i_Model_isWaiting_8) = true := by decide +kernel
theorem fit_Model_isWaiting_9 : sm_fit (lt_R kModel_isWaiting) (lt_n kModel_isWaiting) (lt_fl kModel_isWaiting).1 (lt_fl kModel_isWaiting).2 (lt_r kModel_isWaiting) (lt_b kModel_isWaiting) (pc_Model_isWaiting) (pc_Model_isWaiting 9) (i_Model_isWaiting_9) = true := by decide +kernel
theorem fit_Model_isWaiting_10 : sm_fit (lt_R kModel_isWaiting) (lt_n kModel_isWaiting) (lt_fl kModel_isWaiting).1 (lt_fl kModel_isWaiting).2 (lt_r kModel_isWaiting) (lt_b kModel_isWaiting) (pc_Model_isWaiting) (pc_Model_isWaiting 10) (i_Model_isWaiting_10) = true := by decide +kernel
theorem fit_Model_isWaiting_11 : sm_fit (lt_R kModel_isWaiting) (lt_n kModel_isWaiting) (lt_fl kModel_isWaiting).1 (lt_fl kModel_isWaiting).2 (lt_r kModel_isWaiting) (lt_b kModel_isWaiting) (pc_Model_isWaiting) (pc_Model_isWaiting 11) (i_Model_isWaiting_11) = true := by decide +kernel
theorem fit_Model_isWaiting_12 : sm_fit (lt_R kModel_isWaiting) (lt_n kModel_isWaiting) (lt_fl kModel_isWaiting).1 (lt_fl kModel_isWaiting).2 (lt_r kModel_isWaiting) (lt_b kModel_isWaiting) (pc_Model_isWaiting) (pc_Model_isWaiting 12) (i_Model_isWaiting_12) = true := by decide +kernel
theorem fit_Model_isWaiting_13 : sm_fit (lt_R kModel_isWaiting) (lt_n kModel_isWaiting) (lt_fl kModel_isWaiting).1 (lt_fl kModel_isWaiting).2 (lt_r kModel_isWaiting) (lt_b kModel_isWaiting) (pc_Model_isWaiting) (pc_Model_isWaiting 13) (i_Model_isWaiting_13) = true := by decide +kernel
theorem fit_Model_isWaiting_14 : sm_fit (lt_R kModel_isWaiting) (lt_n kModel_isWaiting) (lt_fl kModel_isWaiting).1 (lt_fl kModel_isWaiting).2 (lt_r kModel_isWaiting) (lt_b kModel_isWaiting) (pc_Model_isWaiting) (pc_Model_isWaiting 14) (i_Model_isWaiting_14) = true := by decide +kernel
theorem fit_Model_broken_0 : sm_fit (lt_R kModel_broken) (lt_n kModel_broken) (lt_fl kModel_broken).1 (lt_fl kModel_broken).2 (lt_r kModel_broken) (lt_b kModel_broken) (pc_Model_broken) (pc_Model_broken 0) (i_Model_broken_0) = true := by decide +kernel
theorem fit_Model_broken_1 : sm_fit (lt_R kModel_broken) (lt_n kModel_broken) (lt_fl kModel_broken).1 (lt_fl kModel_broken).2 (lt_r kModel_broken) (lt_b kModel_broken) (pc_Model_broken) (pc_Model_broken 1) (i_Model_broken_1) = true := by decide +kernel
theorem fit_Model_broken_2 : sm_fit (lt_R kModel_broken) (lt_n kModel_broken) (lt_fl kModel_broken).1 (lt_fl kModel_broken).2 (lt_r kModel_broken) (lt_b kModel_broken) (pc_Model_broken) (pc_Model_broken 2) (i_Model_broken_2) = true := by decide +kernel
theorem fit_Model_broken_3 : sm_fit (lt_R kModel_broken) (lt_n kModel_broken) (lt_fl kModel_broken).1 (lt_fl kModel_broken).2 (lt_r kModel_broken) (lt_b kModel_broken) (pc_Model_broken) (pc_Model_broken 3) (i_Model_broken_3) = true := by decide +kernel
theorem fit_Model_broken_4 : sm_fit (lt_R kModel_broken) (lt_n kModel_broken) (lt_fl kModel_broken).1 (lt_fl kModel_broken).2 (lt_r kModel_broken) (lt_b kModel_broken) (pc_Model_broken) (pc_Model_broken 4) (i_Model_broken_4) = true := by decide +kernel
theorem fit_Model_broken_5 : sm_fit (lt_R kModel_broken) (lt_n kModel_broken) (lt_fl kModel_broken).1 (lt_fl kModel_broken).2 (lt_r kModel_broken) (lt_b kModel_broken) (pc_Model_broken) (pc_Model_broken 5) (i_Model_broken_5) = true := by decide +kernel
theorem fit_Model_broken_6 : sm_fit (lt_R kModel_broken) (lt_n kModel_broken) (lt_fl kModel_broken).1 (lt_fl kModel_broken).2 (lt_r kModel_broken) (lt_b kModel_broken) (pc_Model_broken) (pc_Model_broken 6) (i_Model_broken_6) = true := by decide +kernel
theorem fit_Model_broken_7 : sm_fit (lt_R kModel_broken) (lt_n kModel_broken) (lt_fl kModel_broken).1 (lt_fl kModel_broken).2 (lt_r kModel_broken) (lt_b kModel_broken) (pc_Model_broken) (pc_Model_broken 7) (i_Model_broken_7) = true := by decide +kernel
theorem fit_Model_broken_8 : sm_fit (lt_R kModel_broken) (lt_n kModel_broken) (lt_fl kModel_broken).1 (lt_fl kModel_broken).2 (lt_r kModel_broken) (lt_b kModel_broken) (pc_Model_broken) (pc_Model_broken 8) (i_Model_broken_8) = true := by decide +kernel
theorem fit_Model_broken_9 : sm_fit (lt_R kModel_broken) (lt_n kModel_broken) (lt_fl kModel_broken).1 (lt_fl kModel_broken).2 (lt_r kModel_broken) (lt_b kModel_broken) (pc_Model_broken) (pc_Model_broken 9) (i_Model_broken_9) = true := by decide +kernel
theorem fit_Model_broken_10 : sm_fit (lt_R kModel_broken) (lt_n kModel_broken) (lt_fl kModel_broken).1 (lt_fl kModel_broken).2 (lt_r kModel_broken) (lt_b kModel_broken) (pc_Model_broken) (pc_Model_broken 10) (i_Model_broken_10) = true := by decide +kernel
theorem fit_Model_broken_11 : sm_fit (lt_R kModel_broken) (lt_n kModel_broken) (lt_fl kModel_broken).1 (lt_fl kModel_broken).2 (lt_r kModel_broken) (lt_b kModel_broken) (pc_Model_broken) (pc_Model_broken 11) (i_Model_broken_11) = true := by decide +kernel
theorem fit_Model_broken_12 : sm_fit (lt_R kModel_broken) (lt_n kModel_broken) (lt_fl kModel_broken).1 (lt_fl kModel_broken).2 (lt_r kModel_broken) (lt_b kModel_broken) (pc_Model_broken) (pc_Model_broken 12) (i_Model_broken_12) = true := by decide +kernel
theorem fit_Model_broken_13 : sm_fit (lt_R kModel_broken) (lt_n kModel_broken) (lt_fl kModel_broken).1 (lt_fl kModel_broken).2 (lt_r kModel_broken) (lt_b kModel_broken) (pc_Model_broken) (pc_Model_broken 13) (i_Model_broken_13) = true := by decide +kernel
theorem fit_Model_broken_14 : sm_fit (lt_R kModel_broken) (lt_n kModel_broken) (lt_fl kModel_broken).1 (lt_fl kModel_broken).2 (lt_r kModel_broken) (lt_b kModel_broken) (pc_Model_broken) (pc_Model_broken 14) (i_Model_broken_14) = true := by decide +kernel
theorem fit_Model_broken_15 : sm_fit (lt_R kModel_broken) (lt_n kModel_broken) (lt_fl kModel_broken).1 (lt_fl kModel_broken).2 (lt_r kModel_broken) (lt_b kModel_broken) (pc_Model_broken) (pc_Model_broken 15) (i_Model_broken_15) = true := by decide +kernel
theorem fit_Model_broken_16 : sm_fit (lt_R kModel_broken) (lt_n kModel_broken) (lt_fl kModel_broken).1 (lt_fl kModel_broken).2 (lt_r kModel_broken) (lt_b kModel_broken) (pc_Model_broken) (pc_Model_broken 16) (i_Model_broken_16) = true := by decide +kernel
theorem fit_Model_broken_17 : sm_fit (lt_R kModel_broken) (lt_n kModel_broken) (lt_fl kModel_broken).1 (lt_fl kModel_broken).2 (lt_r kModel_broken) (lt_b kModel_broken) (pc_Model_broken) (pc_Model_broken 17) (i_Model_broken_17) = true := by decide +kernel
theorem fit_Model_broken_18 : sm_fit (lt_R kModel_broken) (lt_n kModel_broken) (lt_fl kModel_broken).1 (lt_fl kModel_broken).2 (lt_r kModel_broken) (lt_b kModel_broken) (pc_Model_broken) (pc_Model_broken 18) (i_Model_broken_18) = true := by decide +kernel
theorem fit_Model_broken_19 : sm_fit (lt_R kModel_broken) (lt_n kModel_broken) (lt_fl kModel_broken).1 (lt_fl kModel_broken).2 (lt_r kModel_broken) (lt_b kModel_broken) (pc_Model_broken) (pc_Model_broken 19) (i_Model_broken_19) = true := by decide +kernel
theorem fit_Model_broken_20 : sm_fit (lt_R kModel_broken) (lt_n kModel_broken) (lt_fl kModel_broken).1 (lt_fl kModel_broken).2 (lt_r kModel_broken) (lt_b kModel_broken) (pc_Model_broken) (pc_Model_broken 20) (i_Model_broken_20) = true := by decide +kernel
theorem fit_Model_broken_21 : sm_fit (lt_R kModel_broken) (lt_n kModel_broken) (lt_fl kModel_broken).1 (lt_fl kModel_broken).2 (lt_r kModel_broken) (lt_b kModel_broken) (pc_Model_broken) (pc_Model_broken 21) (i_Model_broken_21) = true := by decide +kernel
theorem fit_Model_broken_22 : sm_fit (lt_R kModel_broken) (lt_n kModel_broken) (lt_fl kModel_broken).1 (lt_fl kModel_broken).2 (lt_r kModel_broken) (lt_b kModel_broken) (pc_Model_broken) (pc_Model_broken 22) (i_Model_broken_22) = true := by decide +kernel
theorem fit_Model_broken_23 : sm_fit (lt_R kModel_broken) (lt_n kModel_broken) (lt_fl kModel_broken).1 (lt_fl kModel_broken).2 (lt_r kModel_broken) (lt_b kModel_broken) (pc_Model_broken) (pc_Model_broken 23) (i_Model_broken_23) = true := by decide +kernel
theorem fit_Model_broken_24 : sm_fit (lt_R kModel_broken) (lt_n kModel_broken) (lt_fl kModel_broken).1 (lt_fl kModel_broken).2 (lt_r kModel_broken) (lt_b kModel_broken) (pc_Model_broken) (pc_Model_broken 24) (i_Model_broken_24) = true := by decide +kernel
theorem fit_Model_broken_25 : sm_fit (lt_R kModel_broken) (lt_n kModel_broken) (lt_fl kModel_broken).1 (lt_fl kModel_broken).2 (lt_r kModel_broken) (lt_b kModel_broken) (pc_Model_broken) (pc_Model_broken 25) (i_Model_broken_25) = true := by decide +kernel
theorem fit_Model_broken_26 : sm_fit (lt_R kModel_broken) (lt_n kModel_broken) (lt_fl kModel_broken).1 (lt_fl kModel_broken).2 (lt_r kModel_broken) (lt_b kModel_broken) (pc_Model_broken) (pc_Model_broken 26) (i_Model_broken_26) = true := by decide +kernel
theorem fit_Model_broken_27 : sm_fit (lt_R kModel_broken) (lt_n kModel_broken) (lt_fl kModel_broken).1 (lt_fl kModel_broken).2 (lt_r kModel_broken) (lt_b kModel_broken) (pc_Model_broken) (pc_Model_broken 27) (i_Model_broken_27) = true := by decide +kernel
theorem fit_Model_broken_28 : sm_fit (lt_R kModel_broken) (lt_n kModel_broken) (lt_fl kModel_broken).1 (lt_fl kModel_broken).2 (lt_r kModel_broken) (lt_b kModel_broken) (pc_Model_broken) (pc_Model_broken 28) (i_Model_broken_28) = true := by decide +kernel
theorem fit_Model_broken_29 : sm_fit (lt_R kModel_broken) (lt_n kModel_broken) (lt_fl kModel_broken).1 (lt_fl kModel_broken).2 (lt_r kModel_broken) (lt_b kModel_broken) (pc_Model_broken) (pc_Model_broken 29) (i_Model_broken_29) = true := by decide +kernel
theorem fit_Model_broken_30 : sm_fit (lt_R kModel_broken) (lt_n kModel_broken) (lt_fl kModel_broken).1 (lt_fl kModel_broken).2 (lt_r kModel_broken) (lt_b kModel_broken) (pc_Model_broken) (pc_Model_broken 30) (i_Model_broken_30) = true := by decide +kernel
theorem fit_Model_broken_31 : sm_fit (lt_R kModel_broken) (lt_n kModel_broken) (lt_fl kModel_broken).1 (lt_fl kModel_broken).2 (lt_r kModel_broken) (lt_b kModel_broken) (pc_Model_broken) (pc_Model_broken 31) (i_Model_broken_31) = true := by decide +kernel
theorem fit_Model_broken_32 : sm_fit (lt_R kModel_broken) (lt_n kModel_broken) (lt_fl kModel_broken).1 (lt_fl kModel_broken).2 (lt_r kModel_broken) (lt_b kModel_broken) (pc_Model_broken) (pc_Model_broken 32) (i_Model_broken_32) = true := by decide +kernel
theorem fit_Model_broken_33 : sm_fit (lt_R kModel_broken) (lt_n kModel_broken) (lt_fl kModel_broken).1 (lt_fl kModel_broken).2 (lt_r kModel_broken) (lt_b kModel_broken) (pc_Model_broken) (pc_Model_broken 33) (i_Model_broken_33) = true := by decide +kernel
theorem fit_Model_broken_34 : sm_fit (lt_R kModel_broken) (lt_n kModel_broken) (lt_fl kModel_broken).1 (lt_fl kModel_broken).2 (lt_r kModel_broken) (lt_b kModel_broken) (pc_Model_broken) (pc_Model_broken 34) (i_Model_broken_34) = true := by decide +kernel
theorem fit_Model_broken_35 : sm_fit (lt_R kModel_broken) (lt_n kModel_broken) (lt_fl kModel_broken).1 (lt_fl kModel_broken).2 (lt_r kModel_broken) (lt_b kModel_broken) (pc_Model_broken) (pc_Model_broken 35) (i_Model_broken_35) = true := by decide +kernel
theorem fit_Model_broken_36 : sm_fit (lt_R kModel_broken) (lt_n kModel_broken) (lt_fl kModel_broken).1 (lt_fl kModel_broken).2 (lt_r kModel_broken) (lt_b kModel_broken) (pc_Model_broken) (pc_Model_broken 36) (i_Model_broken_36) = true := by decide +kernel
theorem fit_Model_broken_37 : sm_fit (lt_R kModel_broken) (lt_n kModel_broken) (lt_fl kModel_broken).1 (lt_fl kModel_broken).2 (lt_r kModel_broken) (lt_b kModel_broken) (pc_Model_broken) (pc_Model_broken 37) (i_Model_broken_37) = true := by decide +kernel
theorem fit_Model_broken_38 : sm_fit (lt_R kModel_broken) (lt_n kModel_broken) (lt_fl kModel_broken).1 (lt_fl kModel_broken).2 (lt_r kModel_broken) (lt_b kModel_broken) (pc_Model_broken) (pc_Model_broken 38) (i_Model_broken_38) = true := by decide +kernel
theorem fit_Model_broken_39 : sm_fit (lt_R kModel_broken) (lt_n kModel_broken) (lt_fl kModel_broken).1 (lt_fl kModel_broken).2 (lt_r kModel_broken) (lt_b kModel_broken) (pc_Model_broken) (pc_Model_broken 39) (i_Model_broken_39) = true := by decide +kernel
theorem fit_Model_brokenByMessage_0 : sm_fit (lt_R kModel_brokenByMessage) (lt_n kModel_brokenByMessage) (lt_fl kModel_brokenByMessage).1 (lt_fl kModel_brokenByMessage).2 (lt_r kModel_brokenByMessage) (lt_b kModel_brokenByMessage) (pc_Model_brokenByMessage) (pc_Model_brokenByMessage 0) (i_Model_brokenByMessage_0) = true := by decide +kernel
theorem fit_Model_brokenByMessage_1 : sm_fit (lt_R kModel_brokenByMessage) (lt_n kModel_brokenByMessage) (lt_fl kModel_brokenByMessage).1 (lt_fl kModel_brokenByMessage).2 (lt_r kModel_brokenByMessage) (lt_b kModel_brokenByMessage) (pc_Model_brokenByMessage) (pc_Model_brokenByMessage 1) (i_Model_brokenByMessage_1) = true := by decide +kernel
theorem fit_Model_brokenByMessage_2 : sm_fit (lt_R kModel_brokenByMessage) (lt_n kModel_brokenByMessage) (lt_fl kModel_brokenByMessage).1 (lt_fl kModel_brokenByMessage).2 (lt_r kModel_brokenByMessage) (lt_b kModel_brokenByMessage) (pc_Model_brokenByMessage) (pc_Model_brokenByMessage 2) (i_Model_brokenByMessage_2) = true := by decide +kernel
theorem fit_Model_brokenByMessage_3 : sm_fit (lt_R kModel_brokenByMessage) (lt_n kModel_brokenByMessage) (lt_fl kModel_brokenByMessage).1 (lt_fl kModel_brokenByMessage).2 (lt_r kModel_brokenByMessage) (lt_b kModel_brokenByMessage) (pc_Model_brokenByMessage) (pc_Model_brokenByMessage 3) (i_Model_brokenByMessage_3) = true := by decide +kernel
theorem fit_Model_brokenByMessage_4 : sm_fit (lt_R kModel_brokenByMessage) (lt_n kModel_brokenByMessage) (lt_fl kModel_brokenByMessage).1 (lt_fl kModel_brokenByMessage).2 (lt_r kModel_brokenByMessage) (lt_b kModel_brokenByMessage) (pc_Model_brokenByMessage) (pc_Model_brokenByMessage 4) (i_Model_brokenByMessage_4) = true := by decide +kernel
theorem fit_Model_brokenByMessage_5 : sm_fit (lt_R kModel_brokenByMessage) (lt_n kModel_brokenByMessage) (lt_fl kModel_brokenByMessage).1 (lt_fl kModel_brokenByMessage).2 (lt_r kModel_brokenByMessage) (lt_b kModel_brokenByMessage) (pc_Model_brokenByMessage) (pc_Model_brokenByMessage 5) (i_Model_brokenByMessage_5) = true := by decide +kernel
theorem fit_Model_brokenByMessage_6 : sm_fit (lt_R kModel_brokenByMessage) (lt_n kModel_brokenByMessage) (lt_fl kModel_brokenByMessage).1 (lt_fl kModel_brokenByMessage).2 (lt_r kModel_brokenByMessage) (lt_b kModel_brokenByMessage) (pc_Model_brokenByMessage) (pc_Model_brokenByMessage 6) (i_Model_brokenByMessage_6) = true := by decide +kernel
theorem fit_Model_brokenByMessage_7 : sm_fit (lt_R kModel_brokenByMessage) (lt_n kModel_brokenByMessage) (lt_fl kModel_brokenByMessage).1 (lt_fl kModel_brokenByMessage).2 (lt_r kModel_brokenByMessage) (lt_b kModel_brokenByMessage) (pc_Model_brokenByMessage) (pc_Model_brokenByMessage 7) (i_Model_brokenByMessage_7) = true := by decide +kernel
theorem fit_Model_brokenByMessage_8 : sm_fit (lt_R kModel_brokenByMessage) (lt_n kModel_brokenByMessage) (lt_fl kModel_brokenByMessage).1 (lt_fl kModel_brokenByMessage).2 (lt_r kModel_brokenByMessage) (lt_b kModel_brokenByMessage) (pc_Model_brokenByMessage) (pc_Model_brokenByMessage 8) (i_Model_brokenByMessage_8) = true := by decide +kernel
theorem fit_Model_brokenByMessage_9 : sm_fit (lt_R kModel_brokenByMessage) (lt_n kModel_brokenByMessage) (lt_fl kModel_brokenByMessage).1 (lt_fl kModel_brokenByMessage).2 (lt_r kModel_brokenByMessage) (lt_b kModel_brokenByMessage) (pc_Model_brokenByMessage) (pc_Model_brokenByMessage 9) (i_Model_brokenByMessage_9) = true := by decide +kernel
theorem fit_Model_brokenByMessage_10 : sm_fit (lt_R kModel_brokenByMessage) (lt_n kModel_brokenByMessage) (lt_fl kModel_brokenByMessage).1 (lt_fl kModel_brokenByMessage).2 (lt_r kModel_brokenByMessage) (lt_b kModel_brokenByMessage) (pc_Model_brokenByMessage) (pc_Model_brokenByMessage 10) (i_Model_brokenByMessage_10) = true := by decide +kernel
theorem fit_Model_brokenByMessage_11 : sm_fit (lt_R kModel_brokenByMessage) (lt_n kModel_brokenByMessage) (lt_fl kModel_brokenByMessage).1 (lt_fl kModel_brokenByMessage).2 (lt_r kModel_brokenByMessage) (lt_b kModel_brokenByMessage) (pc_Model_brokenByMessage) (pc_Model_brokenByMessage 11) (i_Model_brokenByMessage_11) = true := by decide +kernel
theorem fit_Model_brokenByMessage_12 : sm_fit (lt_R kModel_brokenByMessage) (lt_n kModel_brokenByMessage) (lt_fl kModel_brokenByMessage).1 (lt_fl kModel_brokenByMessage).2 (lt_r kModel_brokenByMessage) (lt_b kModel_brokenByMessage) (pc_Model_brokenByMessage) (pc_Model_brokenByMessage 12) (i_Model_brokenByMessage_12) = true := by decide +kernel
theorem fit_Model_dropsOwned_0 : sm_fit (lt_R kModel_dropsOwned) (lt_n kModel_dropsOwned) (lt_fl kModel_dropsOwned).1 (lt_fl kModel_dropsOwned).2 (lt_r kModel_dropsOwned) (lt_b kModel_dropsOwned) (pc_Model_dropsOwned) (pc_Model_dropsOwned 0) (i_Model_dropsOwned_0) = true := by decide +kernel
theorem fit_Model_dropsOwned_1 : sm_fit (lt_R kModel_dropsOwned) (lt_n kModel_dropsOwned) (lt_fl kModel_dropsOwned).1 (lt_fl kModel_dropsOwned).2 (lt_r kModel_dropsOwned) (lt_b kModel_dropsOwned) (pc_Model_dropsOwned) (pc_Model_dropsOwned 1) (i_Model_dropsOwned_1) = true := by decide +kernel
theorem fit_Model_dropsOwned_2 : sm_fit (lt_R kModel_dropsOwned) (lt_n kModel_dropsOwned) (lt_fl kModel_dropsOwned).1 (lt_fl kModel_dropsOwned).2 (lt_r kModel_dropsOwned) (lt_b kModel_dropsOwned) (pc_Model_dropsOwned) (pc_Model_dropsOwned 2) (i_Model_dropsOwned_2) = true := by decide +kernel
theorem fit_Model_dropsOwned_3 : sm_fit (lt_R kModel_dropsOwned) (lt_n kModel_dropsOwned) (lt_fl kModel_dropsOwned).1 (lt_fl kModel_dropsOwned).2 (lt_r kModel_dropsOwned) (lt_b kModel_dropsOwned) (pc_Model_dropsOwned) (pc_Model_dropsOwned 3) (i_Model_dropsOwned_3) = true := by decide +kernel
theorem fit_Model_dropsOwned_4 : sm_fit (lt_R kModel_dropsOwned) (lt_n kModel_dropsOwned) (lt_fl kModel_dropsOwned).1 (lt_fl kModel_dropsOwned).2 (lt_r kModel_dropsOwned) (lt_b kModel_dropsOwned) (pc_Model_dropsOwned) (pc_Model_dropsOwned 4) (i_Model_dropsOwned_4) = true := by decide +kernel
theorem fit_Model_dropsOwned_5 : sm_fit (lt_R kModel_dropsOwned) (lt_n kModel_dropsOwned) (lt_fl kModel_dropsOwned).1 (lt_fl kModel_dropsOwned).2 (lt_r kModel_dropsOwned) (lt_b kModel_dropsOwned) (pc_Model_dropsOwned) (pc_Model_dropsOwned 5) (i_Model_dropsOwned_5) = true := by decide +kernel
theorem fit_Model_dropsOwned_6 : sm_fit (lt_R kModel_dropsOwned) (lt_n kModel_dropsOwned) (lt_fl kModel_dropsOwned).1 (lt_fl kModel_dropsOwned).2 (lt_r kModel_dropsOwned) (lt_b kModel_dropsOwned) (pc_Model_dropsOwned) (pc_Model_dropsOwned 6) (i_Model_dropsOwned_6) = true := by decide +kernel
theorem fit_Model_dropsOwned_7 : sm_fit (lt_R kModel_dropsOwned) (lt_n kModel_dropsOwned) (lt_fl kModel_dropsOwned).1 (lt_fl kModel_dropsOwned).2 (lt_r kModel_dropsOwned) (lt_b kModel_dropsOwned) (pc_Model_dropsOwned) (pc_Model_dropsOwned 7) (i_Model_dropsOwned_7) = true := by decide +kernel
theorem fit_Model_dropsOwned_8 : sm_fit (lt_R kModel_dropsOwned) (lt_n kModel_dropsOwned) (lt_fl kModel_dropsOwned).1 (lt_fl kModel_dropsOwned).2 (lt_r kModel_dropsOwned) (lt_b kModel_dropsOwned) (pc_Model_dropsOwned) (pc_Model_dropsOwned 8) (i_Model_dropsOwned_8) = true := by decide +kernel
theorem fit_Model_dropsOwned_9 : sm_fit (lt_R kModel_dropsOwned) (lt_n kModel_dropsOwned) (lt_fl kModel_dropsOwned).1 (lt_fl kModel_dropsOwned).2 (lt_r kModel_dropsOwned) (lt_b kModel_dropsOwned) (pc_Model_dropsOwned) (pc_Model_dropsOwned 9) (i_Model_dropsOwned_9) = true := by decide +kernel
theorem fit_Model_dropsOwned_10 : sm_fit (lt_R kModel_dropsOwned) (lt_n kModel_dropsOwned) (lt_fl kModel_dropsOwned).1 (lt_fl kModel_dropsOwned).2 (lt_r kModel_dropsOwned) (lt_b kModel_dropsOwned) (pc_Model_dropsOwned) (pc_Model_dropsOwned 10) (i_Model_dropsOwned_10) = true := by decide +kernel
theorem fit_Model_dropsOwned_11 : sm_fit (lt_R kModel_dropsOwned) (lt_n kModel_dropsOwned) (lt_fl kModel_dropsOwned).1 (lt_fl kModel_dropsOwned).2 (lt_r kModel_dropsOwned) (lt_b kModel_dropsOwned) (pc_Model_dropsOwned) (pc_Model_dropsOwned 11) (i_Model_dropsOwned_11) = true := by decide +kernel
theorem fit_Model_dropsOwned_12 : sm_fit (lt_R kModel_dropsOwned) (lt_n kModel_dropsOwned) (lt_fl kModel_dropsOwned).1 (lt_fl kModel_dropsOwned).2 (lt_r kModel_dropsOwned) (lt_b kModel_dropsOwned) (pc_Model_dropsOwned) (pc_Model_dropsOwned 12) (i_Model_dropsOwned_12) = true := by decide +kernel
theorem fit_Model_dropsOwned_13 : sm_fit (lt_R kModel_dropsOwned) (lt_n kModel_dropsOwned) (lt_fl kModel_dropsOwned).1 (lt_fl kModel_dropsOwned).2 (lt_r kModel_dropsOwned) (lt_b kModel_dropsOwned) (pc_Model_dropsOwned) (pc_Model_dropsOwned 13) (i_Model_dropsOwned_13) = true := by decide +kernel
theorem fit_Model_dropsOwned_14 : sm_fit (lt_R kModel_dropsOwned) (lt_n kModel_dropsOwned) (lt_fl kModel_dropsOwned).1 (lt_fl kModel_dropsOwned).2 (lt_r kModel_dropsOwned) (lt_b kModel_dropsOwned) (pc_Model_dropsOwned) (pc_Model_dropsOwned 14) (i_Model_dropsOwned_14) = true := by decide +kernel
theorem fit_Model_dropsOwned_15 : sm_fit (lt_R kModel_dropsOwned) (lt_n kModel_dropsOwned) (lt_fl kModel_dropsOwned).1 (lt_fl kModel_dropsOwned).2 (lt_r kModel_dropsOwned) (lt_b kModel_dropsOwned) (pc_Model_dropsOwned) (pc_Model_dropsOwned 15) (i_Model_dropsOwned_15) = true := by decide +kernel
theorem fit_Model_dropsOwned_16 : sm_fit (lt_R kModel_dropsOwned) (lt_n kModel_dropsOwned) (lt_fl kModel_dropsOwned).1 (lt_fl kModel_dropsOwned).2 (lt_r kModel_dropsOwned) (lt_b kModel_dropsOwned) (pc_Model_dropsOwned) (pc_Model_dropsOwned 16) (i_Model_dropsOwned_16) = true := by decide +kernel
theorem fit_Model_dropsOwned_17 : sm_fit (lt_R kModel_dropsOwned) (lt_n kModel_dropsOwned) (lt_fl kModel_dropsOwned).1 (lt_fl kModel_dropsOwned).2 (lt_r kModel_dropsOwned) (lt_b kModel_dropsOwned) (pc_Model_dropsOwned) (pc_Model_dropsOwned 17) (i_Model_dropsOwned_17) = true := by decide +kernel
theorem fit_Model_dies_0 : sm_fit (lt_R kModel_dies) (lt_n kModel_dies) (lt_fl kModel_dies).1 (lt_fl kModel_dies).2 (lt_r kModel_dies) (lt_b kModel_dies) (pc_Model_dies) (pc_Model_dies 0) (i_Model_dies_0) = true := by decide +kernel
theorem fit_Model_dies_1 : sm_fit (lt_R kModel_dies) (lt_n kModel_dies) (lt_fl kModel_dies).1 (lt_fl kModel_dies).2 (lt_r kModel_dies) (lt_b kModel_dies) (pc_Model_dies) (pc_Model_dies 1) (i_Model_dies_1) = true := by decide +kernel
theorem fit_Model_dies_2 : sm_fit (lt_R kModel_dies) (lt_n kModel_dies) (lt_fl kModel_dies).1 (lt_fl kModel_dies).2 (lt_r kModel_dies) (lt_b kModel_dies) (pc_Model_dies) (pc_Model_dies 2) (i_Model_dies_2) = true := by decide +kernel
theorem fit_Model_dies_3 : sm_fit (lt_R kModel_dies) (lt_n kModel_dies) (lt_fl kModel_dies).1 (lt_fl kModel_dies).2 (lt_r kModel_dies) (lt_b kModel_dies) (pc_Model_dies) (pc_Model_dies 3) (i_Model_dies_3) = true := by decide +kernel
theorem fit_Model_dies_4 : sm_fit (lt_R kModel_dies) (lt_n kModel_dies) (lt_fl kModel_dies).1 (lt_fl kModel_dies).2 (lt_r kModel_dies) (lt_b kModel_dies) (pc_Model_dies) (pc_Model_dies 4) (i_Model_dies_4) = true := by decide +kernel
theorem fit_Model_dies_5 : sm_fit (lt_R kModel_dies) (lt_n kModel_dies) (lt_fl kModel_dies).1 (lt_fl kModel_dies).2 (lt_r kModel_dies) (lt_b kModel_dies) (pc_Model_dies) (pc_Model_dies 5) (i_Model_dies_5) = true := by decide +kernel
theorem fit_Model_dies_6 : sm_fit (lt_R kModel_dies) (lt_n kModel_dies) (lt_fl kModel_dies).1 (lt_fl kModel_dies).2 (lt_r kModel_dies) (lt_b kModel_dies) (pc_Model_dies) (pc_Model_dies 6) (i_Model_dies_6) = true := by decide +kernel
theorem fit_Model_dies_7 : sm_fit (lt_R kModel_dies) (lt_n kModel_dies) (lt_fl kModel_dies).1 (lt_fl kModel_dies).2 (lt_r kModel_dies) (lt_b kModel_dies) (pc_Model_dies) (pc_Model_dies 7) (i_Model_dies_7) = true := by decide +kernel
theorem fit_Model_dies_8 : sm_fit (lt_R kModel_dies) (lt_n kModel_dies) (lt_fl kModel_dies).1 (lt_fl kModel_dies).2 (lt_r kModel_dies) (lt_b kModel_dies) (pc_Model_dies) (pc_Model_dies 8) (i_Model_dies_8) = true := by decide +kernel
theorem fit_Model_dies_9 : sm_fit (lt_R kModel_dies) (lt_n kModel_dies) (lt_fl kModel_dies).1 (lt_fl kModel_dies).2 (lt_r kModel_dies) (lt_b kModel_dies) (pc_Model_dies) (pc_Model_dies 9) (i_Model_dies_9) = true := by decide +kernel
theorem fit_Model_dies_10 : sm_fit (lt_R kModel_dies) (lt_n kModel_dies) (lt_fl kModel_dies).1 (lt_fl kModel_dies).2 (lt_r kModel_dies) (lt_b kModel_dies) (pc_Model_dies) (pc_Model_dies 10) (i_Model_dies_10) = true := by decide +kernel
theorem fit_Model_ends_0 : sm_fit (lt_R kModel_ends) (lt_n kModel_ends) (lt_fl kModel_ends).1 (lt_fl kModel_ends).2 (lt_r kModel_ends) (lt_b kModel_ends) (pc_Model_ends) (pc_Model_ends 0) (i_Model_ends_0) = true := by decide +kernel
theorem fit_Model_ends_1 : sm_fit (lt_R kModel_ends) (lt_n kModel_ends) (lt_fl kModel_ends).1 (lt_fl kModel_ends).2 (lt_r kModel_ends) (lt_b kModel_ends) (pc_Model_ends) (pc_Model_ends 1) (i_Model_ends_1) = true := by decide +kernel
theorem fit_Model_ends_2 : sm_fit (lt_R kModel_ends) (lt_n kModel_ends) (lt_fl kModel_ends).1 (lt_fl kModel_ends).2 (lt_r kModel_ends) (lt_b kModel_ends) (pc_Model_ends) (pc_Model_ends 2) (i_Model_ends_2) = true := by decide +kernel
theorem fit_Model_ends_3 : sm_fit (lt_R kModel_ends) (lt_n kModel_ends) (lt_fl kModel_ends).1 (lt_fl kModel_ends).2 (lt_r kModel_ends) (lt_b kModel_ends) (pc_Model_ends) (pc_Model_ends 3) (i_Model_ends_3) = true := by decide +kernel
theorem fit_Model_ends_4 : sm_fit (lt_R kModel_ends) (lt_n kModel_ends) (lt_fl kModel_ends).1 (lt_fl kModel_ends).2 (lt_r kModel_ends) (lt_b kModel_ends) (pc_Model_ends) (pc_Model_ends 4) (i_Model_ends_4) = true := by decide +kernel
theorem fit_Model_ends_5 : sm_fit (lt_R kModel_ends) (lt_n kModel_ends) (lt_fl kModel_ends).1 (lt_fl kModel_ends).2 (lt_r kModel_ends) (lt_b kModel_ends) (pc_Model_ends) (pc_Model_ends 5) (i_Model_ends_5) = true := by decide +kernel
theorem fit_Model_ends_6 : sm_fit (lt_R kModel_ends) (lt_n kModel_ends) (lt_fl kModel_ends).1 (lt_fl kModel_ends).2 (lt_r kModel_ends) (lt_b kModel_ends) (pc_Model_ends) (pc_Model_ends 6) (i_Model_ends_6) = true := by decide +kernel
theorem fit_Model_ends_7 : sm_fit (lt_R kModel_ends) (lt_n kModel_ends) (lt_fl kModel_ends).1 (lt_fl kModel_ends).2 (lt_r kModel_ends) (lt_b kModel_ends) (pc_Model_ends) (pc_Model_ends 7) (i_Model_ends_7) = true := by decide +kernel
theorem fit_Model_ends_8 : sm_fit (lt_R kModel_ends) (lt_n kModel_ends) (lt_fl kModel_ends).1 (lt_fl kModel_ends).2 (lt_r kModel_ends) (lt_b kModel_ends) (pc_Model_ends) (pc_Model_ends 8) (i_Model_ends_8) = true := by decide +kernel
theorem fit_Model_ends_9 : sm_fit (lt_R kModel_ends) (lt_n kModel_ends) (lt_fl kModel_ends).1 (lt_fl kModel_ends).2 (lt_r kModel_ends) (lt_b kModel_ends) (pc_Model_ends) (pc_Model_ends 9) (i_Model_ends_9) = true := by decide +kernel
theorem fit_Model_ends_10 : sm_fit (lt_R kModel_ends) (lt_n kModel_ends) (lt_fl kModel_ends).1 (lt_fl kModel_ends).2 (lt_r kModel_ends) (lt_b kModel_ends) (pc_Model_ends) (pc_Model_ends 10) (i_Model_ends_10) = true := by decide +kernel
theorem fit_Model_ends_11 : sm_fit (lt_R kModel_ends) (lt_n kModel_ends) (lt_fl kModel_ends).1 (lt_fl kModel_ends).2 (lt_r kModel_ends) (lt_b kModel_ends) (pc_Model_ends) (pc_Model_ends 11) (i_Model_ends_11) = true := by decide +kernel
theorem fit_Model_ends_12 : sm_fit (lt_R kModel_ends) (lt_n kModel_ends) (lt_fl kModel_ends).1 (lt_fl kModel_ends).2 (lt_r kModel_ends) (lt_b kModel_ends) (pc_Model_ends) (pc_Model_ends 12) (i_Model_ends_12) = true := by decide +kernel
theorem fit_Model_ends_13 : sm_fit (lt_R kModel_ends) (lt_n kModel_ends) (lt_fl kModel_ends).1 (lt_fl kModel_ends).2 (lt_r kModel_ends) (lt_b kModel_ends) (pc_Model_ends) (pc_Model_ends 13) (i_Model_ends_13) = true := by decide +kernel
theorem fit_Model_ends_14 : sm_fit (lt_R kModel_ends) (lt_n kModel_ends) (lt_fl kModel_ends).1 (lt_fl kModel_ends).2 (lt_r kModel_ends) (lt_b kModel_ends) (pc_Model_ends) (pc_Model_ends 14) (i_Model_ends_14) = true := by decide +kernel
theorem fit_Model_ends_15 : sm_fit (lt_R kModel_ends) (lt_n kModel_ends) (lt_fl kModel_ends).1 (lt_fl kModel_ends).2 (lt_r kModel_ends) (lt_b kModel_ends) (pc_Model_ends) (pc_Model_ends 15) (i_Model_ends_15) = true := by decide +kernel
theorem fit_Model_ends_16 : sm_fit (lt_R kModel_ends) (lt_n kModel_ends) (lt_fl kModel_ends).1 (lt_fl kModel_ends).2 (lt_r kModel_ends) (lt_b kModel_ends) (pc_Model_ends) (pc_Model_ends 16) (i_Model_ends_16) = true := by decide +kernel
theorem fit_Model_ends_17 : sm_fit (lt_R kModel_ends) (lt_n kModel_ends) (lt_fl kModel_ends).1 (lt_fl kModel_ends).2 (lt_r kModel_ends) (lt_b kModel_ends) (pc_Model_ends) (pc_Model_ends 17) (i_Model_ends_17) = true := by decide +kernel
theorem fit_Model_ends_18 : sm_fit (lt_R kModel_ends) (lt_n kModel_ends) (lt_fl kModel_ends).1 (lt_fl kModel_ends).2 (lt_r kModel_ends) (lt_b kModel_ends) (pc_Model_ends) (pc_Model_ends 18) (i_Model_ends_18) = true := by decide +kernel
theorem fit_Model_goesOver_0 : sm_fit (lt_R kModel_goesOver) (lt_n kModel_goesOver) (lt_fl kModel_goesOver).1 (lt_fl kModel_goesOver).2 (lt_r kModel_goesOver) (lt_b kModel_goesOver) (pc_Model_goesOver) (pc_Model_goesOver 0) (i_Model_goesOver_0) = true := by decide +kernel
theorem fit_Model_goesOver_1 : sm_fit (lt_R kModel_goesOver) (lt_n kModel_goesOver) (lt_fl kModel_goesOver).1 (lt_fl kModel_goesOver).2 (lt_r kModel_goesOver) (lt_b kModel_goesOver) (pc_Model_goesOver) (pc_Model_goesOver 1) (i_Model_goesOver_1) = true := by decide +kernel
theorem fit_Model_goesOver_2 : sm_fit (lt_R kModel_goesOver) (lt_n kModel_goesOver) (lt_fl kModel_goesOver).1 (lt_fl kModel_goesOver).2 (lt_r kModel_goesOver) (lt_b kModel_goesOver) (pc_Model_goesOver) (pc_Model_goesOver 2) (i_Model_goesOver_2) = true := by decide +kernel
theorem fit_Model_goesOver_3 : sm_fit (lt_R kModel_goesOver) (lt_n kModel_goesOver) (lt_fl kModel_goesOver).1 (lt_fl kModel_goesOver).2 (lt_r kModel_goesOver) (lt_b kModel_goesOver) (pc_Model_goesOver) (pc_Model_goesOver 3) (i_Model_goesOver_3) = true := by decide +kernel
theorem fit_Model_goesOver_4 : sm_fit (lt_R kModel_goesOver) (lt_n kModel_goesOver) (lt_fl kModel_goesOver).1 (lt_fl kModel_goesOver).2 (lt_r kModel_goesOver) (lt_b kModel_goesOver) (pc_Model_goesOver) (pc_Model_goesOver 4) (i_Model_goesOver_4) = true := by decide +kernel
theorem fit_Model_takes_0 : sm_fit (lt_R kModel_takes) (lt_n kModel_takes) (lt_fl kModel_takes).1 (lt_fl kModel_takes).2 (lt_r kModel_takes) (lt_b kModel_takes) (pc_Model_takes) (pc_Model_takes 0) (i_Model_takes_0) = true := by decide +kernel
theorem fit_Model_copied_0 : sm_fit (lt_R kModel_copied) (lt_n kModel_copied) (lt_fl kModel_copied).1 (lt_fl kModel_copied).2 (lt_r kModel_copied) (lt_b kModel_copied) (pc_Model_copied) (pc_Model_copied 0) (i_Model_copied_0) = true := by decide +kernel
theorem fit_Model_movesOver_0 : sm_fit (lt_R kModel_movesOver) (lt_n kModel_movesOver) (lt_fl kModel_movesOver).1 (lt_fl kModel_movesOver).2 (lt_r kModel_movesOver) (lt_b kModel_movesOver) (pc_Model_movesOver) (pc_Model_movesOver 0) (i_Model_movesOver_0) = true := by decide +kernel
theorem fit_Model_movesOver_1 : sm_fit (lt_R kModel_movesOver) (lt_n kModel_movesOver) (lt_fl kModel_movesOver).1 (lt_fl kModel_movesOver).2 (lt_r kModel_movesOver) (lt_b kModel_movesOver) (pc_Model_movesOver) (pc_Model_movesOver 1) (i_Model_movesOver_1) = true := by decide +kernel
theorem fit_Model_movesOver_2 : sm_fit (lt_R kModel_movesOver) (lt_n kModel_movesOver) (lt_fl kModel_movesOver).1 (lt_fl kModel_movesOver).2 (lt_r kModel_movesOver) (lt_b kModel_movesOver) (pc_Model_movesOver) (pc_Model_movesOver 2) (i_Model_movesOver_2) = true := by decide +kernel
theorem fit_Model_movesOver_3 : sm_fit (lt_R kModel_movesOver) (lt_n kModel_movesOver) (lt_fl kModel_movesOver).1 (lt_fl kModel_movesOver).2 (lt_r kModel_movesOver) (lt_b kModel_movesOver) (pc_Model_movesOver) (pc_Model_movesOver 3) (i_Model_movesOver_3) = true := by decide +kernel
theorem fit_Model_movesOver_4 : sm_fit (lt_R kModel_movesOver) (lt_n kModel_movesOver) (lt_fl kModel_movesOver).1 (lt_fl kModel_movesOver).2 (lt_r kModel_movesOver) (lt_b kModel_movesOver) (pc_Model_movesOver) (pc_Model_movesOver 4) (i_Model_movesOver_4) = true := by decide +kernel
theorem fit_Model_movesOver_5 : sm_fit (lt_R kModel_movesOver) (lt_n kModel_movesOver) (lt_fl kModel_movesOver).1 (lt_fl kModel_movesOver).2 (lt_r kModel_movesOver) (lt_b kModel_movesOver) (pc_Model_movesOver) (pc_Model_movesOver 5) (i_Model_movesOver_5) = true := by decide +kernel
theorem fit_Model_movesOver_6 : sm_fit (lt_R kModel_movesOver) (lt_n kModel_movesOver) (lt_fl kModel_movesOver).1 (lt_fl kModel_movesOver).2 (lt_r kModel_movesOver) (lt_b kModel_movesOver) (pc_Model_movesOver) (pc_Model_movesOver 6) (i_Model_movesOver_6) = true := by decide +kernel
theorem fit_Model_movesOver_7 : sm_fit (lt_R kModel_movesOver) (lt_n kModel_movesOver) (lt_fl kModel_movesOver).1 (lt_fl kModel_movesOver).2 (lt_r kModel_movesOver) (lt_b kModel_movesOver) (pc_Model_movesOver) (pc_Model_movesOver 7) (i_Model_movesOver_7) = true := by decide +kernel
theorem fit_Model_movesOver_8 : sm_fit (lt_R kModel_movesOver) (lt_n kModel_movesOver) (lt_fl kModel_movesOver).1 (lt_fl kModel_movesOver).2 (lt_r kModel_movesOver) (lt_b kModel_movesOver) (pc_Model_movesOver) (pc_Model_movesOver 8) (i_Model_movesOver_8) = true := by decide +kernel
theorem fit_Model_movesOver_9 : sm_fit (lt_R kModel_movesOver) (lt_n kModel_movesOver) (lt_fl kModel_movesOver).1 (lt_fl kModel_movesOver).2 (lt_r kModel_movesOver) (lt_b kModel_movesOver) (pc_Model_movesOver) (pc_Model_movesOver 9) (i_Model_movesOver_9) = true := by decide +kernel
theorem fit_Model_sharesOn_0 : sm_fit (lt_R kModel_sharesOn) (lt_n kModel_sharesOn) (lt_fl kModel_sharesOn).1 (lt_fl kModel_sharesOn).2 (lt_r kModel_sharesOn) (lt_b kModel_sharesOn) (pc_Model_sharesOn) (pc_Model_sharesOn 0) (i_Model_sharesOn_0) = true := by decide +kernel
theorem fit_Model_sharesOn_1 : sm_fit (lt_R kModel_sharesOn) (lt_n kModel_sharesOn) (lt_fl kModel_sharesOn).1 (lt_fl kModel_sharesOn).2 (lt_r kModel_sharesOn) (lt_b kModel_sharesOn) (pc_Model_sharesOn) (pc_Model_sharesOn 1) (i_Model_sharesOn_1) = true := by decide +kernel
theorem fit_Model_sharesOn_2 : sm_fit (lt_R kModel_sharesOn) (lt_n kModel_sharesOn) (lt_fl kModel_sharesOn).1 (lt_fl kModel_sharesOn).2 (lt_r kModel_sharesOn) (lt_b kModel_sharesOn) (pc_Model_sharesOn) (pc_Model_sharesOn 2) (i_Model_sharesOn_2) = true := by decide +kernel
theorem fit_Model_sharesOn_3 : sm_fit (lt_R kModel_sharesOn) (lt_n kModel_sharesOn) (lt_fl kModel_sharesOn).1 (lt_fl kModel_sharesOn).2 (lt_r kModel_sharesOn) (lt_b kModel_sharesOn) (pc_Model_sharesOn) (pc_Model_sharesOn 3) (i_Model_sharesOn_3) = true := by decide +kernel
theorem fit_Model_sharesOn_4 : sm_fit (lt_R kModel_sharesOn) (lt_n kModel_sharesOn) (lt_fl kModel_sharesOn).1 (lt_fl kModel_sharesOn).2 (lt_r kModel_sharesOn) (lt_b kModel_sharesOn) (pc_Model_sharesOn) (pc_Model_sharesOn 4) (i_Model_sharesOn_4) = true := by decide +kernel
theorem fit_Model_sharesOn_5 : sm_fit (lt_R kModel_sharesOn) (lt_n kModel_sharesOn) (lt_fl kModel_sharesOn).1 (lt_fl kModel_sharesOn).2 (lt_r kModel_sharesOn) (lt_b kModel_sharesOn) (pc_Model_sharesOn) (pc_Model_sharesOn 5) (i_Model_sharesOn_5) = true := by decide +kernel
theorem fit_Model_sends_0 : sm_fit (lt_R kModel_sends) (lt_n kModel_sends) (lt_fl kModel_sends).1 (lt_fl kModel_sends).2 (lt_r kModel_sends) (lt_b kModel_sends) (pc_Model_sends) (pc_Model_sends 0) (i_Model_sends_0) = true := by decide +kernel
theorem fit_Model_sends_1 : sm_fit (lt_R kModel_sends) (lt_n kModel_sends) (lt_fl kModel_sends).1 (lt_fl kModel_sends).2 (lt_r kModel_sends) (lt_b kModel_sends) (pc_Model_sends) (pc_Model_sends 1) (i_Model_sends_1) = true := by decide +kernel
theorem fit_Model_sends_2 : sm_fit (lt_R kModel_sends) (lt_n kModel_sends) (lt_fl kModel_sends).1 (lt_fl kModel_sends).2 (lt_r kModel_sends) (lt_b kModel_sends) (pc_Model_sends) (pc_Model_sends 2) (i_Model_sends_2) = true := by decide +kernel
theorem fit_Model_sends_3 : sm_fit (lt_R kModel_sends) (lt_n kModel_sends) (lt_fl kModel_sends).1 (lt_fl kModel_sends).2 (lt_r kModel_sends) (lt_b kModel_sends) (pc_Model_sends) (pc_Model_sends 3) (i_Model_sends_3) = true := by decide +kernel
theorem fit_Model_carriesOut_0 : sm_fit (lt_R kModel_carriesOut) (lt_n kModel_carriesOut) (lt_fl kModel_carriesOut).1 (lt_fl kModel_carriesOut).2 (lt_r kModel_carriesOut) (lt_b kModel_carriesOut) (pc_Model_carriesOut) (pc_Model_carriesOut 0) (i_Model_carriesOut_0) = true := by decide +kernel
theorem fit_Model_carriesOut_1 : sm_fit (lt_R kModel_carriesOut) (lt_n kModel_carriesOut) (lt_fl kModel_carriesOut).1 (lt_fl kModel_carriesOut).2 (lt_r kModel_carriesOut) (lt_b kModel_carriesOut) (pc_Model_carriesOut) (pc_Model_carriesOut 1) (i_Model_carriesOut_1) = true := by decide +kernel
theorem fit_Model_carriesOut_2 : sm_fit (lt_R kModel_carriesOut) (lt_n kModel_carriesOut) (lt_fl kModel_carriesOut).1 (lt_fl kModel_carriesOut).2 (lt_r kModel_carriesOut) (lt_b kModel_carriesOut) (pc_Model_carriesOut) (pc_Model_carriesOut 2) (i_Model_carriesOut_2) = true := by decide +kernel
theorem fit_Model_carriesOut_3 : sm_fit (lt_R kModel_carriesOut) (lt_n kModel_carriesOut) (lt_fl kModel_carriesOut).1 (lt_fl kModel_carriesOut).2 (lt_r kModel_carriesOut) (lt_b kModel_carriesOut) (pc_Model_carriesOut) (pc_Model_carriesOut 3) (i_Model_carriesOut_3) = true := by decide +kernel
theorem fit_Model_carriesOut_4 : sm_fit (lt_R kModel_carriesOut) (lt_n kModel_carriesOut) (lt_fl kModel_carriesOut).1 (lt_fl kModel_carriesOut).2 (lt_r kModel_carriesOut) (lt_b kModel_carriesOut) (pc_Model_carriesOut) (pc_Model_carriesOut 4) (i_Model_carriesOut_4) = true := by decide +kernel
theorem fit_Model_carriesOut_5 : sm_fit (lt_R kModel_carriesOut) (lt_n kModel_carriesOut) (lt_fl kModel_carriesOut).1 (lt_fl kModel_carriesOut).2 (lt_r kModel_carriesOut) (lt_b kModel_carriesOut) (pc_Model_carriesOut) (pc_Model_carriesOut 5) (i_Model_carriesOut_5) = true := by decide +kernel
theorem fit_Model_carriesOut_6 : sm_fit (lt_R kModel_carriesOut) (lt_n kModel_carriesOut) (lt_fl kModel_carriesOut).1 (lt_fl kModel_carriesOut).2 (lt_r kModel_carriesOut) (lt_b kModel_carriesOut) (pc_Model_carriesOut) (pc_Model_carriesOut 6) (i_Model_carriesOut_6) = true := by decide +kernel
theorem fit_Model_carriesOut_7 : sm_fit (lt_R kModel_carriesOut) (lt_n kModel_carriesOut) (lt_fl kModel_carriesOut).1 (lt_fl kModel_carriesOut).2 (lt_r kModel_carriesOut) (lt_b kModel_carriesOut) (pc_Model_carriesOut) (pc_Model_carriesOut 7) (i_Model_carriesOut_7) = true := by decide +kernel
theorem fit_Model_carriesOut_8 : sm_fit (lt_R kModel_carriesOut) (lt_n kModel_carriesOut) (lt_fl kModel_carriesOut).1 (lt_fl kModel_carriesOut).2 (lt_r kModel_carriesOut) (lt_b kModel_carriesOut) (pc_Model_carriesOut) (pc_Model_carriesOut 8) (i_Model_carriesOut_8) = true := by decide +kernel
theorem fit_Model_carriesOut_9 : sm_fit (lt_R kModel_carriesOut) (lt_n kModel_carriesOut) (lt_fl kModel_carriesOut).1 (lt_fl kModel_carriesOut).2 (lt_r kModel_carriesOut) (lt_b kModel_carriesOut) (pc_Model_carriesOut) (pc_Model_carriesOut 9) (i_Model_carriesOut_9) = true := by decide +kernel
theorem fit_Model_carriesOut_10 : sm_fit (lt_R kModel_carriesOut) (lt_n kModel_carriesOut) (lt_fl kModel_carriesOut).1 (lt_fl kModel_carriesOut).2 (lt_r kModel_carriesOut) (lt_b kModel_carriesOut) (pc_Model_carriesOut) (pc_Model_carriesOut 10) (i_Model_carriesOut_10) = true := by decide +kernel
theorem fit_Model_carriesOut_11 : sm_fit (lt_R kModel_carriesOut) (lt_n kModel_carriesOut) (lt_fl kModel_carriesOut).1 (lt_fl kModel_carriesOut).2 (lt_r kModel_carriesOut) (lt_b kModel_carriesOut) (pc_Model_carriesOut) (pc_Model_carriesOut 11) (i_Model_carriesOut_11) = true := by decide +kernel
theorem fit_Model_carriesOut_12 : sm_fit (lt_R kModel_carriesOut) (lt_n kModel_carriesOut) (lt_fl kModel_carriesOut).1 (lt_fl kModel_carriesOut).2 (lt_r kModel_carriesOut) (lt_b kModel_carriesOut) (pc_Model_carriesOut) (pc_Model_carriesOut 12) (i_Model_carriesOut_12) = true := by decide +kernel
theorem fit_Model_carriesOut_13 : sm_fit (lt_R kModel_carriesOut) (lt_n kModel_carriesOut) (lt_fl kModel_carriesOut).1 (lt_fl kModel_carriesOut).2 (lt_r kModel_carriesOut) (lt_b kModel_carriesOut) (pc_Model_carriesOut) (pc_Model_carriesOut 13) (i_Model_carriesOut_13) = true := by decide +kernel
theorem fit_Model_carriesOut_14 : sm_fit (lt_R kModel_carriesOut) (lt_n kModel_carriesOut) (lt_fl kModel_carriesOut).1 (lt_fl kModel_carriesOut).2 (lt_r kModel_carriesOut) (lt_b kModel_carriesOut) (pc_Model_carriesOut) (pc_Model_carriesOut 14) (i_Model_carriesOut_14) = true := by decide +kernel
theorem fit_Model_carriesOut_15 : sm_fit (lt_R kModel_carriesOut) (lt_n kModel_carriesOut) (lt_fl kModel_carriesOut).1 (lt_fl kModel_carriesOut).2 (lt_r kModel_carriesOut) (lt_b kModel_carriesOut) (pc_Model_carriesOut) (pc_Model_carriesOut 15) (i_Model_carriesOut_15) = true := by decide +kernel
theorem fit_Model_carriesOut_16 : sm_fit (lt_R kModel_carriesOut) (lt_n kModel_carriesOut) (lt_fl kModel_carriesOut).1 (lt_fl kModel_carriesOut).2 (lt_r kModel_carriesOut) (lt_b kModel_carriesOut) (pc_Model_carriesOut) (pc_Model_carriesOut 16) (i_Model_carriesOut_16) = true := by decide +kernel
theorem fit_Model_carriesOut_17 : sm_fit (lt_R kModel_carriesOut) (lt_n kModel_carriesOut) (lt_fl kModel_carriesOut).1 (lt_fl kModel_carriesOut).2 (lt_r kModel_carriesOut) (lt_b kModel_carriesOut) (pc_Model_carriesOut) (pc_Model_carriesOut 17) (i_Model_carriesOut_17) = true := by decide +kernel
theorem fit_Model_carriesOut_18 : sm_fit (lt_R kModel_carriesOut) (lt_n kModel_carriesOut) (lt_fl kModel_carriesOut).1 (lt_fl kModel_carriesOut).2 (lt_r kModel_carriesOut) (lt_b kModel_carriesOut) (pc_Model_carriesOut) (pc_Model_carriesOut 18) (i_Model_carriesOut_18) = true := by decide +kernel
theorem fit_Model_carriesOut_19 : sm_fit (lt_R kModel_carriesOut) (lt_n kModel_carriesOut) (lt_fl kModel_carriesOut).1 (lt_fl kModel_carriesOut).2 (lt_r kModel_carriesOut) (lt_b kModel_carriesOut) (pc_Model_carriesOut) (pc_Model_carriesOut 19) (i_Model_carriesOut_19) = true := by decide +kernel
theorem fit_Model_carriesOut_20 : sm_fit (lt_R kModel_carriesOut) (lt_n kModel_carriesOut) (lt_fl kModel_carriesOut).1 (lt_fl kModel_carriesOut).2 (lt_r kModel_carriesOut) (lt_b kModel_carriesOut) (pc_Model_carriesOut) (pc_Model_carriesOut 20) (i_Model_carriesOut_20) = true := by decide +kernel
theorem fit_Model_carriesOut_21 : sm_fit (lt_R kModel_carriesOut) (lt_n kModel_carriesOut) (lt_fl kModel_carriesOut).1 (lt_fl kModel_carriesOut).2 (lt_r kModel_carriesOut) (lt_b kModel_carriesOut) (pc_Model_carriesOut) (pc_Model_carriesOut 21) (i_Model_carriesOut_21) = true := by decide +kernel
theorem fit_Model_carriesOut_22 : sm_fit (lt_R kModel_carriesOut) (lt_n kModel_carriesOut) (lt_fl kModel_carriesOut).1 (lt_fl kModel_carriesOut).2 (lt_r kModel_carriesOut) (lt_b kModel_carriesOut) (pc_Model_carriesOut) (pc_Model_carriesOut 22) (i_Model_carriesOut_22) = true := by decide +kernel
theorem fit_Model_carriesOut_23 : sm_fit (lt_R kModel_carriesOut) (lt_n kModel_carriesOut) (lt_fl kModel_carriesOut).1 (lt_fl kModel_carriesOut).2 (lt_r kModel_carriesOut) (lt_b kModel_carriesOut) (pc_Model_carriesOut) (pc_Model_carriesOut 23) (i_Model_carriesOut_23) = true := by decide +kernel
theorem fit_Model_carriesOut_24 : sm_fit (lt_R kModel_carriesOut) (lt_n kModel_carriesOut) (lt_fl kModel_carriesOut).1 (lt_fl kModel_carriesOut).2 (lt_r kModel_carriesOut) (lt_b kModel_carriesOut) (pc_Model_carriesOut) (pc_Model_carriesOut 24) (i_Model_carriesOut_24) = true := by decide +kernel
theorem fit_Model_carriesOut_25 : sm_fit (lt_R kModel_carriesOut) (lt_n kModel_carriesOut) (lt_fl kModel_carriesOut).1 (lt_fl kModel_carriesOut).2 (lt_r kModel_carriesOut) (lt_b kModel_carriesOut) (pc_Model_carriesOut) (pc_Model_carriesOut 25) (i_Model_carriesOut_25) = true := by decide +kernel
theorem fit_Model_goesFurther_0 : sm_fit (lt_R kModel_goesFurther) (lt_n kModel_goesFurther) (lt_fl kModel_goesFurther).1 (lt_fl kModel_goesFurther).2 (lt_r kModel_goesFurther) (lt_b kModel_goesFurther) (pc_Model_goesFurther) (pc_Model_goesFurther 0) (i_Model_goesFurther_0) = true := by decide +kernel
theorem fit_Model_goesFurther_1 : sm_fit (lt_R kModel_goesFurther) (lt_n kModel_goesFurther) (lt_fl kModel_goesFurther).1 (lt_fl kModel_goesFurther).2 (lt_r kModel_goesFurther) (lt_b kModel_goesFurther) (pc_Model_goesFurther) (pc_Model_goesFurther 1) (i_Model_goesFurther_1) = true := by decide +kernel
theorem fit_Model_goesFurther_2 : sm_fit (lt_R kModel_goesFurther) (lt_n kModel_goesFurther) (lt_fl kModel_goesFurther).1 (lt_fl kModel_goesFurther).2 (lt_r kModel_goesFurther) (lt_b kModel_goesFurther) (pc_Model_goesFurther) (pc_Model_goesFurther 2) (i_Model_goesFurther_2) = true := by decide +kernel
theorem fit_Model_goesFurther_3 : sm_fit (lt_R kModel_goesFurther) (lt_n kModel_goesFurther) (lt_fl kModel_goesFurther).1 (lt_fl kModel_goesFurther).2 (lt_r kModel_goesFurther) (lt_b kModel_goesFurther) (pc_Model_goesFurther) (pc_Model_goesFurther 3) (i_Model_goesFurther_3) = true := by decide +kernel
theorem fit_Model_goesFurther_4 : sm_fit (lt_R kModel_goesFurther) (lt_n kModel_goesFurther) (lt_fl kModel_goesFurther).1 (lt_fl kModel_goesFurther).2 (lt_r kModel_goesFurther) (lt_b kModel_goesFurther) (pc_Model_goesFurther) (pc_Model_goesFurther 4) (i_Model_goesFurther_4) = true := by decide +kernel
theorem fit_Model_goesFurther_5 : sm_fit (lt_R kModel_goesFurther) (lt_n kModel_goesFurther) (lt_fl kModel_goesFurther).1 (lt_fl kModel_goesFurther).2 (lt_r kModel_goesFurther) (lt_b kModel_goesFurther) (pc_Model_goesFurther) (pc_Model_goesFurther 5) (i_Model_goesFurther_5) = true := by decide +kernel
theorem fit_Model_goesFurther_6 : sm_fit (lt_R kModel_goesFurther) (lt_n kModel_goesFurther) (lt_fl kModel_goesFurther).1 (lt_fl kModel_goesFurther).2 (lt_r kModel_goesFurther) (lt_b kModel_goesFurther) (pc_Model_goesFurther) (pc_Model_goesFurther 6) (i_Model_goesFurther_6) = true := by decide +kernel
theorem fit_Model_go_0 : sm_fit (lt_R kModel_go) (lt_n kModel_go) (lt_fl kModel_go).1 (lt_fl kModel_go).2 (lt_r kModel_go) (lt_b kModel_go) (pc_Model_go) (pc_Model_go 0) (i_Model_go_0) = true := by decide +kernel
theorem fit_Model_go_1 : sm_fit (lt_R kModel_go) (lt_n kModel_go) (lt_fl kModel_go).1 (lt_fl kModel_go).2 (lt_r kModel_go) (lt_b kModel_go) (pc_Model_go) (pc_Model_go 1) (i_Model_go_1) = true := by decide +kernel
theorem fit_Model_go_2 : sm_fit (lt_R kModel_go) (lt_n kModel_go) (lt_fl kModel_go).1 (lt_fl kModel_go).2 (lt_r kModel_go) (lt_b kModel_go) (pc_Model_go) (pc_Model_go 2) (i_Model_go_2) = true := by decide +kernel
theorem fit_Model_go_3 : sm_fit (lt_R kModel_go) (lt_n kModel_go) (lt_fl kModel_go).1 (lt_fl kModel_go).2 (lt_r kModel_go) (lt_b kModel_go) (pc_Model_go) (pc_Model_go 3) (i_Model_go_3) = true := by decide +kernel
theorem fit_Model_go_4 : sm_fit (lt_R kModel_go) (lt_n kModel_go) (lt_fl kModel_go).1 (lt_fl kModel_go).2 (lt_r kModel_go) (lt_b kModel_go) (pc_Model_go) (pc_Model_go 4) (i_Model_go_4) = true := by decide +kernel
theorem fit_Model_go_5 : sm_fit (lt_R kModel_go) (lt_n kModel_go) (lt_fl kModel_go).1 (lt_fl kModel_go).2 (lt_r kModel_go) (lt_b kModel_go) (pc_Model_go) (pc_Model_go 5) (i_Model_go_5) = true := by decide +kernel
theorem fit_Model_go_6 : sm_fit (lt_R kModel_go) (lt_n kModel_go) (lt_fl kModel_go).1 (lt_fl kModel_go).2 (lt_r kModel_go) (lt_b kModel_go) (pc_Model_go) (pc_Model_go 6) (i_Model_go_6) = true := by decide +kernel
theorem fit_Model_go_7 : sm_fit (lt_R kModel_go) (lt_n kModel_go) (lt_fl kModel_go).1 (lt_fl kModel_go).2 (lt_r kModel_go) (lt_b kModel_go) (pc_Model_go) (pc_Model_go 7) (i_Model_go_7) = true := by decide +kernel
theorem fit_Model_go_8 : sm_fit (lt_R kModel_go) (lt_n kModel_go) (lt_fl kModel_go).1 (lt_fl kModel_go).2 (lt_r kModel_go) (lt_b kModel_go) (pc_Model_go) (pc_Model_go 8) (i_Model_go_8) = true := by decide +kernel
theorem fit_Model_go_9 : sm_fit (lt_R kModel_go) (lt_n kModel_go) (lt_fl kModel_go).1 (lt_fl kModel_go).2 (lt_r kModel_go) (lt_b kModel_go) (pc_Model_go) (pc_Model_go 9) (i_Model_go_9) = true := by decide +kernel
theorem fit_Model_canGo_0 : sm_fit (lt_R kModel_canGo) (lt_n kModel_canGo) (lt_fl kModel_canGo).1 (lt_fl kModel_canGo).2 (lt_r kModel_canGo) (lt_b kModel_canGo) (pc_Model_canGo) (pc_Model_canGo 0) (i_Model_canGo_0) = true := by decide +kernel
theorem fit_Model_canGo_1 : sm_fit (lt_R kModel_canGo) (lt_n kModel_canGo) (lt_fl kModel_canGo).1 (lt_fl kModel_canGo).2 (lt_r kModel_canGo) (lt_b kModel_canGo) (pc_Model_canGo) (pc_Model_canGo 1) (i_Model_canGo_1) = true := by decide +kernel
theorem fit_Model_canGo_2 : sm_fit (lt_R kModel_canGo) (lt_n kModel_canGo) (lt_fl kModel_canGo).1 (lt_fl kModel_canGo).2 (lt_r kModel_canGo) (lt_b kModel_canGo) (pc_Model_canGo) (pc_Model_canGo 2) (i_Model_canGo_2) = true := by decide +kernel
theorem fit_Model_canGo_3 : sm_fit (lt_R kModel_canGo) (lt_n kModel_canGo) (lt_fl kModel_canGo).1 (lt_fl kModel_canGo).2 (lt_r kModel_canGo) (lt_b kModel_canGo) (pc_Model_canGo) (pc_Model_canGo 3) (i_Model_canGo_3) = true := by decide +kernel
theorem fit_Model_canGo_4 : sm_fit (lt_R kModel_canGo) (lt_n kModel_canGo) (lt_fl kModel_canGo).1 (lt_fl kModel_canGo).2 (lt_r kModel_canGo) (lt_b kModel_canGo) (pc_Model_canGo) (pc_Model_canGo 4) (i_Model_canGo_4) = true := by decide +kernel
theorem fit_Model_run_0 : sm_fit (lt_R kModel_run) (lt_n kModel_run) (lt_fl kModel_run).1 (lt_fl kModel_run).2 (lt_r kModel_run) (lt_b kModel_run) (pc_Model_run) (pc_Model_run 0) (i_Model_run_0) = true := by decide +kernel
theorem fit_Model_run_1 : sm_fit (lt_R kModel_run) (lt_n kModel_run) (lt_fl kModel_run).1 (lt_fl kModel_run).2 (lt_r kModel_run) (lt_b kModel_run) (pc_Model_run) (pc_Model_run 1) (i_Model_run_1) = true := by decide +kernel
theorem fit_Model_run_2 : sm_fit (lt_R kModel_run) (lt_n kModel_run) (lt_fl kModel_run).1 (lt_fl kModel_run).2 (lt_r kModel_run) (lt_b kModel_run) (pc_Model_run) (pc_Model_run 2) (i_Model_run_2) = true := by decide +kernel
theorem fit_Model_run_3 : sm_fit (lt_R kModel_run) (lt_n kModel_run) (lt_fl kModel_run).1 (lt_fl kModel_run).2 (lt_r kModel_run) (lt_b kModel_run) (pc_Model_run) (pc_Model_run 3) (i_Model_run_3) = true := by decide +kernel
theorem fit_Model_run_4 : sm_fit (lt_R kModel_run) (lt_n kModel_run) (lt_fl kModel_run).1 (lt_fl kModel_run).2 (lt_r kModel_run) (lt_b kModel_run) (pc_Model_run) (pc_Model_run 4) (i_Model_run_4) = true := by decide +kernel
theorem fit_Model_run_5 : sm_fit (lt_R kModel_run) (lt_n kModel_run) (lt_fl kModel_run).1 (lt_fl kModel_run).2 (lt_r kModel_run) (lt_b kModel_run) (pc_Model_run) (pc_Model_run 5) (i_Model_run_5) = true := by decide +kernel
theorem fit_Model_run_6 : sm_fit (lt_R kModel_run) (lt_n kModel_run) (lt_fl kModel_run).1 (lt_fl kModel_run).2 (lt_r kModel_run) (lt_b kModel_run) (pc_Model_run) (pc_Model_run 6) (i_Model_run_6) = true := by decide +kernel
theorem fit_Model_run_7 : sm_fit (lt_R kModel_run) (lt_n kModel_run) (lt_fl kModel_run).1 (lt_fl kModel_run).2 (lt_r kModel_run) (lt_b kModel_run) (pc_Model_run) (pc_Model_run 7) (i_Model_run_7) = true := by decide +kernel
theorem fit_Model_run_8 : sm_fit (lt_R kModel_run) (lt_n kModel_run) (lt_fl kModel_run).1 (lt_fl kModel_run).2 (lt_r kModel_run) (lt_b kModel_run) (pc_Model_run) (pc_Model_run 8) (i_Model_run_8) = true := by decide +kernel
theorem fit_Model_run_9 : sm_fit (lt_R kModel_run) (lt_n kModel_run) (lt_fl kModel_run).1 (lt_fl kModel_run).2 (lt_r kModel_run) (lt_b kModel_run) (pc_Model_run) (pc_Model_run 9) (i_Model_run_9) = true := by decide +kernel
theorem fit_Model_run_10 : sm_fit (lt_R kModel_run) (lt_n kModel_run) (lt_fl kModel_run).1 (lt_fl kModel_run).2 (lt_r kModel_run) (lt_b kModel_run) (pc_Model_run) (pc_Model_run 10) (i_Model_run_10) = true := by unfold i_Model_run_10; rw [lt_K1_eq]; decide +kernel
theorem fit_Model_run_11 : sm_fit (lt_R kModel_run) (lt_n kModel_run) (lt_fl kModel_run).1 (lt_fl kModel_run).2 (lt_r kModel_run) (lt_b kModel_run) (pc_Model_run) (pc_Model_run 11) (i_Model_run_11) = true := by decide +kernel
theorem fit_Model_run_12 : sm_fit (lt_R kModel_run) (lt_n kModel_run) (lt_fl kModel_run).1 (lt_fl kModel_run).2 (lt_r kModel_run) (lt_b kModel_run) (pc_Model_run) (pc_Model_run 12) (i_Model_run_12) = true := by decide +kernel
theorem fit_Model_run_13 : sm_fit (lt_R kModel_run) (lt_n kModel_run) (lt_fl kModel_run).1 (lt_fl kModel_run).2 (lt_r kModel_run) (lt_b kModel_run) (pc_Model_run) (pc_Model_run 13) (i_Model_run_13) = true := by decide +kernel
theorem fit_Model_run_14 : sm_fit (lt_R kModel_run) (lt_n kModel_run) (lt_fl kModel_run).1 (lt_fl kModel_run).2 (lt_r kModel_run) (lt_b kModel_run) (pc_Model_run) (pc_Model_run 14) (i_Model_run_14) = true := by decide +kernel
theorem fit_Model_run_15 : sm_fit (lt_R kModel_run) (lt_n kModel_run) (lt_fl kModel_run).1 (lt_fl kModel_run).2 (lt_r kModel_run) (lt_b kModel_run) (pc_Model_run) (pc_Model_run 15) (i_Model_run_15) = true := by decide +kernel
theorem fit_Model_run_16 : sm_fit (lt_R kModel_run) (lt_n kModel_run) (lt_fl kModel_run).1 (lt_fl kModel_run).2 (lt_r kModel_run) (lt_b kModel_run) (pc_Model_run) (pc_Model_run 16) (i_Model_run_16) = true := by decide +kernel
theorem fit_Model_run_17 : sm_fit (lt_R kModel_run) (lt_n kModel_run) (lt_fl kModel_run).1 (lt_fl kModel_run).2 (lt_r kModel_run) (lt_b kModel_run) (pc_Model_run) (pc_Model_run 17) (i_Model_run_17) = true := by decide +kernel
theorem fit_Model_run_18 : sm_fit (lt_R kModel_run) (lt_n kModel_run) (lt_fl kModel_run).1 (lt_fl kModel_run).2 (lt_r kModel_run) (lt_b kModel_run) (pc_Model_run) (pc_Model_run 18) (i_Model_run_18) = true := by decide +kernel
theorem fit_Model_run_19 : sm_fit (lt_R kModel_run) (lt_n kModel_run) (lt_fl kModel_run).1 (lt_fl kModel_run).2 (lt_r kModel_run) (lt_b kModel_run) (pc_Model_run) (pc_Model_run 19) (i_Model_run_19) = true := by decide +kernel
theorem fit_Model_run_20 : sm_fit (lt_R kModel_run) (lt_n kModel_run) (lt_fl kModel_run).1 (lt_fl kModel_run).2 (lt_r kModel_run) (lt_b kModel_run) (pc_Model_run) (pc_Model_run 20) (i_Model_run_20) = true := by decide +kernel
theorem fit_Model_run_21 : sm_fit (lt_R kModel_run) (lt_n kModel_run) (lt_fl kModel_run).1 (lt_fl kModel_run).2 (lt_r kModel_run) (lt_b kModel_run) (pc_Model_run) (pc_Model_run 21) (i_Model_run_21) = true := by decide +kernel
theorem fit_Model_canRun_0 : sm_fit (lt_R kModel_canRun) (lt_n kModel_canRun) (lt_fl kModel_canRun).1 (lt_fl kModel_canRun).2 (lt_r kModel_canRun) (lt_b kModel_canRun) (pc_Model_canRun) (pc_Model_canRun 0) (i_Model_canRun_0) = true := by decide +kernel
theorem fit_Model_canRun_1 : sm_fit (lt_R kModel_canRun) (lt_n kModel_canRun) (lt_fl kModel_canRun).1 (lt_fl kModel_canRun).2 (lt_r kModel_canRun) (lt_b kModel_canRun) (pc_Model_canRun) (pc_Model_canRun 1) (i_Model_canRun_1) = true := by decide +kernel
theorem fit_Model_canRun_2 : sm_fit (lt_R kModel_canRun) (lt_n kModel_canRun) (lt_fl kModel_canRun).1 (lt_fl kModel_canRun).2 (lt_r kModel_canRun) (lt_b kModel_canRun) (pc_Model_canRun) (pc_Model_canRun 2) (i_Model_canRun_2) = true := by decide +kernel
theorem fit_Model_canRun_3 : sm_fit (lt_R kModel_canRun) (lt_n kModel_canRun) (lt_fl kModel_canRun).1 (lt_fl kModel_canRun).2 (lt_r kModel_canRun) (lt_b kModel_canRun) (pc_Model_canRun) (pc_Model_canRun 3) (i_Model_canRun_3) = true := by decide +kernel
theorem fit_Model_canRun_4 : sm_fit (lt_R kModel_canRun) (lt_n kModel_canRun) (lt_fl kModel_canRun).1 (lt_fl kModel_canRun).2 (lt_r kModel_canRun) (lt_b kModel_canRun) (pc_Model_canRun) (pc_Model_canRun 4) (i_Model_canRun_4) = true := by decide +kernel
theorem fit_Model_canRun_5 : sm_fit (lt_R kModel_canRun) (lt_n kModel_canRun) (lt_fl kModel_canRun).1 (lt_fl kModel_canRun).2 (lt_r kModel_canRun) (lt_b kModel_canRun) (pc_Model_canRun) (pc_Model_canRun 5) (i_Model_canRun_5) = true := by decide +kernel
theorem fit_Model_canRun_6 : sm_fit (lt_R kModel_canRun) (lt_n kModel_canRun) (lt_fl kModel_canRun).1 (lt_fl kModel_canRun).2 (lt_r kModel_canRun) (lt_b kModel_canRun) (pc_Model_canRun) (pc_Model_canRun 6) (i_Model_canRun_6) = true := by decide +kernel
theorem fit_Model_canRun_7 : sm_fit (lt_R kModel_canRun) (lt_n kModel_canRun) (lt_fl kModel_canRun).1 (lt_fl kModel_canRun).2 (lt_r kModel_canRun) (lt_b kModel_canRun) (pc_Model_canRun) (pc_Model_canRun 7) (i_Model_canRun_7) = true := by decide +kernel
theorem fit_Model_canRun_8 : sm_fit (lt_R kModel_canRun) (lt_n kModel_canRun) (lt_fl kModel_canRun).1 (lt_fl kModel_canRun).2 (lt_r kModel_canRun) (lt_b kModel_canRun) (pc_Model_canRun) (pc_Model_canRun 8) (i_Model_canRun_8) = true := by decide +kernel
theorem fit_Model_canRun_9 : sm_fit (lt_R kModel_canRun) (lt_n kModel_canRun) (lt_fl kModel_canRun).1 (lt_fl kModel_canRun).2 (lt_r kModel_canRun) (lt_b kModel_canRun) (pc_Model_canRun) (pc_Model_canRun 9) (i_Model_canRun_9) = true := by decide +kernel
theorem fit_Model_isAsked_0 : sm_fit (lt_R kModel_isAsked) (lt_n kModel_isAsked) (lt_fl kModel_isAsked).1 (lt_fl kModel_isAsked).2 (lt_r kModel_isAsked) (lt_b kModel_isAsked) (pc_Model_isAsked) (pc_Model_isAsked 0) (i_Model_isAsked_0) = true := by decide +kernel
theorem fit_Model_isAsked_1 : sm_fit (lt_R kModel_isAsked) (lt_n kModel_isAsked) (lt_fl kModel_isAsked).1 (lt_fl kModel_isAsked).2 (lt_r kModel_isAsked) (lt_b kModel_isAsked) (pc_Model_isAsked) (pc_Model_isAsked 1) (i_Model_isAsked_1) = true := by decide +kernel
theorem fit_Model_isAsked_2 : sm_fit (lt_R kModel_isAsked) (lt_n kModel_isAsked) (lt_fl kModel_isAsked).1 (lt_fl kModel_isAsked).2 (lt_r kModel_isAsked) (lt_b kModel_isAsked) (pc_Model_isAsked) (pc_Model_isAsked 2) (i_Model_isAsked_2) = true := by decide +kernel
theorem fit_Model_isAsked_3 : sm_fit (lt_R kModel_isAsked) (lt_n kModel_isAsked) (lt_fl kModel_isAsked).1 (lt_fl kModel_isAsked).2 (lt_r kModel_isAsked) (lt_b kModel_isAsked) (pc_Model_isAsked) (pc_Model_isAsked 3) (i_Model_isAsked_3) = true := by decide +kernel
theorem fit_Model_isAsked_4 : sm_fit (lt_R kModel_isAsked) (lt_n kModel_isAsked) (lt_fl kModel_isAsked).1 (lt_fl kModel_isAsked).2 (lt_r kModel_isAsked) (lt_b kModel_isAsked) (pc_Model_isAsked) (pc_Model_isAsked 4) (i_Model_isAsked_4) = true := by decide +kernel
theorem fit_Model_isAsked_5 : sm_fit (lt_R kModel_isAsked) (lt_n kModel_isAsked) (lt_fl kModel_isAsked).1 (lt_fl kModel_isAsked).2 (lt_r kModel_isAsked) (lt_b kModel_isAsked) (pc_Model_isAsked) (pc_Model_isAsked 5) (i_Model_isAsked_5) = true := by decide +kernel
theorem fit_Model_isAsked_6 : sm_fit (lt_R kModel_isAsked) (lt_n kModel_isAsked) (lt_fl kModel_isAsked).1 (lt_fl kModel_isAsked).2 (lt_r kModel_isAsked) (lt_b kModel_isAsked) (pc_Model_isAsked) (pc_Model_isAsked 6) (i_Model_isAsked_6) = true := by decide +kernel
theorem fit_Model_isAsked_7 : sm_fit (lt_R kModel_isAsked) (lt_n kModel_isAsked) (lt_fl kModel_isAsked).1 (lt_fl kModel_isAsked).2 (lt_r kModel_isAsked) (lt_b kModel_isAsked) (pc_Model_isAsked) (pc_Model_isAsked 7) (i_Model_isAsked_7) = true := by decide +kernel
theorem fit_Model_isAsked_8 : sm_fit (lt_R kModel_isAsked) (lt_n kModel_isAsked) (lt_fl kModel_isAsked).1 (lt_fl kModel_isAsked).2 (lt_r kModel_isAsked) (lt_b kModel_isAsked) (pc_Model_isAsked) (pc_Model_isAsked 8) (i_Model_isAsked_8) = true := by decide +kernel
theorem fit_Model_state_0 : sm_fit (lt_R kModel_state) (lt_n kModel_state) (lt_fl kModel_state).1 (lt_fl kModel_state).2 (lt_r kModel_state) (lt_b kModel_state) (pc_Model_state) (pc_Model_state 0) (i_Model_state_0) = true := by decide +kernel
theorem fit_Model_state_1 : sm_fit (lt_R kModel_state) (lt_n kModel_state) (lt_fl kModel_state).1 (lt_fl kModel_state).2 (lt_r kModel_state) (lt_b kModel_state) (pc_Model_state) (pc_Model_state 1) (i_Model_state_1) = true := by decide +kernel
theorem fit_Model_state_2 : sm_fit (lt_R kModel_state) (lt_n kModel_state) (lt_fl kModel_state).1 (lt_fl kModel_state).2 (lt_r kModel_state) (lt_b kModel_state) (pc_Model_state) (pc_Model_state 2) (i_Model_state_2) = true := by decide +kernel
theorem fit_Model_state_3 : sm_fit (lt_R kModel_state) (lt_n kModel_state) (lt_fl kModel_state).1 (lt_fl kModel_state).2 (lt_r kModel_state) (lt_b kModel_state) (pc_Model_state) (pc_Model_state 3) (i_Model_state_3) = true := by decide +kernel
theorem fit_Model_fault_0 : sm_fit (lt_R kModel_fault) (lt_n kModel_fault) (lt_fl kModel_fault).1 (lt_fl kModel_fault).2 (lt_r kModel_fault) (lt_b kModel_fault) (pc_Model_fault) (pc_Model_fault 0) (i_Model_fault_0) = true := by decide +kernel
theorem fit_Model_fault_1 : sm_fit (lt_R kModel_fault) (lt_n kModel_fault) (lt_fl kModel_fault).1 (lt_fl kModel_fault).2 (lt_r kModel_fault) (lt_b kModel_fault) (pc_Model_fault) (pc_Model_fault 1) (i_Model_fault_1) = true := by decide +kernel
theorem fit_Model_fault_2 : sm_fit (lt_R kModel_fault) (lt_n kModel_fault) (lt_fl kModel_fault).1 (lt_fl kModel_fault).2 (lt_r kModel_fault) (lt_b kModel_fault) (pc_Model_fault) (pc_Model_fault 2) (i_Model_fault_2) = true := by decide +kernel
theorem fit_Model_fault_3 : sm_fit (lt_R kModel_fault) (lt_n kModel_fault) (lt_fl kModel_fault).1 (lt_fl kModel_fault).2 (lt_r kModel_fault) (lt_b kModel_fault) (pc_Model_fault) (pc_Model_fault 3) (i_Model_fault_3) = true := by decide +kernel
theorem fit_Model_place_0 : sm_fit (lt_R kModel_place) (lt_n kModel_place) (lt_fl kModel_place).1 (lt_fl kModel_place).2 (lt_r kModel_place) (lt_b kModel_place) (pc_Model_place) (pc_Model_place 0) (i_Model_place_0) = true := by decide +kernel
theorem fit_Model_place_1 : sm_fit (lt_R kModel_place) (lt_n kModel_place) (lt_fl kModel_place).1 (lt_fl kModel_place).2 (lt_r kModel_place) (lt_b kModel_place) (pc_Model_place) (pc_Model_place 1) (i_Model_place_1) = true := by decide +kernel
theorem fit_Model_place_2 : sm_fit (lt_R kModel_place) (lt_n kModel_place) (lt_fl kModel_place).1 (lt_fl kModel_place).2 (lt_r kModel_place) (lt_b kModel_place) (pc_Model_place) (pc_Model_place 2) (i_Model_place_2) = true := by decide +kernel
theorem fit_Model_place_3 : sm_fit (lt_R kModel_place) (lt_n kModel_place) (lt_fl kModel_place).1 (lt_fl kModel_place).2 (lt_r kModel_place) (lt_b kModel_place) (pc_Model_place) (pc_Model_place 3) (i_Model_place_3) = true := by decide +kernel
theorem fit_Model_value_0 : sm_fit (lt_R kModel_value) (lt_n kModel_value) (lt_fl kModel_value).1 (lt_fl kModel_value).2 (lt_r kModel_value) (lt_b kModel_value) (pc_Model_value) (pc_Model_value 0) (i_Model_value_0) = true := by decide +kernel
theorem fit_Model_value_1 : sm_fit (lt_R kModel_value) (lt_n kModel_value) (lt_fl kModel_value).1 (lt_fl kModel_value).2 (lt_r kModel_value) (lt_b kModel_value) (pc_Model_value) (pc_Model_value 1) (i_Model_value_1) = true := by decide +kernel
theorem fit_Model_value_2 : sm_fit (lt_R kModel_value) (lt_n kModel_value) (lt_fl kModel_value).1 (lt_fl kModel_value).2 (lt_r kModel_value) (lt_b kModel_value) (pc_Model_value) (pc_Model_value 2) (i_Model_value_2) = true := by decide +kernel
theorem fit_Model_value_3 : sm_fit (lt_R kModel_value) (lt_n kModel_value) (lt_fl kModel_value).1 (lt_fl kModel_value).2 (lt_r kModel_value) (lt_b kModel_value) (pc_Model_value) (pc_Model_value 3) (i_Model_value_3) = true := by decide +kernel
theorem fit_Model_value_4 : sm_fit (lt_R kModel_value) (lt_n kModel_value) (lt_fl kModel_value).1 (lt_fl kModel_value).2 (lt_r kModel_value) (lt_b kModel_value) (pc_Model_value) (pc_Model_value 4) (i_Model_value_4) = true := by decide +kernel
theorem fit_Model_value_5 : sm_fit (lt_R kModel_value) (lt_n kModel_value) (lt_fl kModel_value).1 (lt_fl kModel_value).2 (lt_r kModel_value) (lt_b kModel_value) (pc_Model_value) (pc_Model_value 5) (i_Model_value_5) = true := by decide +kernel
theorem fit_Model_value_6 : sm_fit (lt_R kModel_value) (lt_n kModel_value) (lt_fl kModel_value).1 (lt_fl kModel_value).2 (lt_r kModel_value) (lt_b kModel_value) (pc_Model_value) (pc_Model_value 6) (i_Model_value_6) = true := by decide +kernel
theorem fit_Model_value_7 : sm_fit (lt_R kModel_value) (lt_n kModel_value) (lt_fl kModel_value).1 (lt_fl kModel_value).2 (lt_r kModel_value) (lt_b kModel_value) (pc_Model_value) (pc_Model_value 7) (i_Model_value_7) = true := by decide +kernel
theorem fit_Model_value_8 : sm_fit (lt_R kModel_value) (lt_n kModel_value) (lt_fl kModel_value).1 (lt_fl kModel_value).2 (lt_r kModel_value) (lt_b kModel_value) (pc_Model_value) (pc_Model_value 8) (i_Model_value_8) = true := by decide +kernel
theorem fit_Model_waiting_0 : sm_fit (lt_R kModel_waiting) (lt_n kModel_waiting) (lt_fl kModel_waiting).1 (lt_fl kModel_waiting).2 (lt_r kModel_waiting) (lt_b kModel_waiting) (pc_Model_waiting) (pc_Model_waiting 0) (i_Model_waiting_0) = true := by decide +kernel
theorem fit_Model_waiting_1 : sm_fit (lt_R kModel_waiting) (lt_n kModel_waiting) (lt_fl kModel_waiting).1 (lt_fl kModel_waiting).2 (lt_r kModel_waiting) (lt_b kModel_waiting) (pc_Model_waiting) (pc_Model_waiting 1) (i_Model_waiting_1) = true := by decide +kernel
theorem fit_Model_waiting_2 : sm_fit (lt_R kModel_waiting) (lt_n kModel_waiting) (lt_fl kModel_waiting).1 (lt_fl kModel_waiting).2 (lt_r kModel_waiting) (lt_b kModel_waiting) (pc_Model_waiting) (pc_Model_waiting 2) (i_Model_waiting_2) = true := by decide +kernel
theorem fit_Model_waiting_3 : sm_fit (lt_R kModel_waiting) (lt_n kModel_waiting) (lt_fl kModel_waiting).1 (lt_fl kModel_waiting).2 (lt_r kModel_waiting) (lt_b kModel_waiting) (pc_Model_waiting) (pc_Model_waiting 3) (i_Model_waiting_3) = true := by decide +kernel
theorem fit_Model_waiting_4 : sm_fit (lt_R kModel_waiting) (lt_n kModel_waiting) (lt_fl kModel_waiting).1 (lt_fl kModel_waiting).2 (lt_r kModel_waiting) (lt_b kModel_waiting) (pc_Model_waiting) (pc_Model_waiting 4) (i_Model_waiting_4) = true := by decide +kernel
theorem fit_Model_waiting_5 : sm_fit (lt_R kModel_waiting) (lt_n kModel_waiting) (lt_fl kModel_waiting).1 (lt_fl kModel_waiting).2 (lt_r kModel_waiting) (lt_b kModel_waiting) (pc_Model_waiting) (pc_Model_waiting 5) (i_Model_waiting_5) = true := by decide +kernel
theorem fit_Model_waiting_6 : sm_fit (lt_R kModel_waiting) (lt_n kModel_waiting) (lt_fl kModel_waiting).1 (lt_fl kModel_waiting).2 (lt_r kModel_waiting) (lt_b kModel_waiting) (pc_Model_waiting) (pc_Model_waiting 6) (i_Model_waiting_6) = true := by decide +kernel
theorem fit_Model_waiting_7 : sm_fit (lt_R kModel_waiting) (lt_n kModel_waiting) (lt_fl kModel_waiting).1 (lt_fl kModel_waiting).2 (lt_r kModel_waiting) (lt_b kModel_waiting) (pc_Model_waiting) (pc_Model_waiting 7) (i_Model_waiting_7) = true := by decide +kernel
theorem fit_Model_made_0 : sm_fit (lt_R kModel_made) (lt_n kModel_made) (lt_fl kModel_made).1 (lt_fl kModel_made).2 (lt_r kModel_made) (lt_b kModel_made) (pc_Model_made) (pc_Model_made 0) (i_Model_made_0) = true := by decide +kernel
theorem fit_Model_drops_0 : sm_fit (lt_R kModel_drops) (lt_n kModel_drops) (lt_fl kModel_drops).1 (lt_fl kModel_drops).2 (lt_r kModel_drops) (lt_b kModel_drops) (pc_Model_drops) (pc_Model_drops 0) (i_Model_drops_0) = true := by decide +kernel
theorem fit_Model_dropped_0 : sm_fit (lt_R kModel_dropped) (lt_n kModel_dropped) (lt_fl kModel_dropped).1 (lt_fl kModel_dropped).2 (lt_r kModel_dropped) (lt_b kModel_dropped) (pc_Model_dropped) (pc_Model_dropped 0) (i_Model_dropped_0) = true := by decide +kernel
theorem fit_Model_dropped_1 : sm_fit (lt_R kModel_dropped) (lt_n kModel_dropped) (lt_fl kModel_dropped).1 (lt_fl kModel_dropped).2 (lt_r kModel_dropped) (lt_b kModel_dropped) (pc_Model_dropped) (pc_Model_dropped 1) (i_Model_dropped_1) = true := by decide +kernel
theorem fit_Model_dropped_2 : sm_fit (lt_R kModel_dropped) (lt_n kModel_dropped) (lt_fl kModel_dropped).1 (lt_fl kModel_dropped).2 (lt_r kModel_dropped) (lt_b kModel_dropped) (pc_Model_dropped) (pc_Model_dropped 2) (i_Model_dropped_2) = true := by decide +kernel
theorem fit_Model_dropped_3 : sm_fit (lt_R kModel_dropped) (lt_n kModel_dropped) (lt_fl kModel_dropped).1 (lt_fl kModel_dropped).2 (lt_r kModel_dropped) (lt_b kModel_dropped) (pc_Model_dropped) (pc_Model_dropped 3) (i_Model_dropped_3) = true := by decide +kernel
theorem fit_Model_dropped_4 : sm_fit (lt_R kModel_dropped) (lt_n kModel_dropped) (lt_fl kModel_dropped).1 (lt_fl kModel_dropped).2 (lt_r kModel_dropped) (lt_b kModel_dropped) (pc_Model_dropped) (pc_Model_dropped 4) (i_Model_dropped_4) = true := by decide +kernel
theorem fit_Model_dropped_5 : sm_fit (lt_R kModel_dropped) (lt_n kModel_dropped) (lt_fl kModel_dropped).1 (lt_fl kModel_dropped).2 (lt_r kModel_dropped) (lt_b kModel_dropped) (pc_Model_dropped) (pc_Model_dropped 5) (i_Model_dropped_5) = true := by decide +kernel
theorem fit_Model_dropped_6 : sm_fit (lt_R kModel_dropped) (lt_n kModel_dropped) (lt_fl kModel_dropped).1 (lt_fl kModel_dropped).2 (lt_r kModel_dropped) (lt_b kModel_dropped) (pc_Model_dropped) (pc_Model_dropped 6) (i_Model_dropped_6) = true := by decide +kernel
theorem fit_Law_law_1 : sm_fit (lt_R kLaw_law) (lt_n kLaw_law) (lt_fl kLaw_law).1 (lt_fl kLaw_law).2 (lt_r kLaw_law) (lt_b kLaw_law) (pc_Law_law) (pc_Law_law 1) (i_Law_law_1) = true := by decide +kernel
theorem fit_Law_law_2 : sm_fit (lt_R kLaw_law) (lt_n kLaw_law) (lt_fl kLaw_law).1 (lt_fl kLaw_law).2 (lt_r kLaw_law) (lt_b kLaw_law) (pc_Law_law) (pc_Law_law 2) (i_Law_law_2) = true := by decide +kernel
theorem fit_Law_law_3 : sm_fit (lt_R kLaw_law) (lt_n kLaw_law) (lt_fl kLaw_law).1 (lt_fl kLaw_law).2 (lt_r kLaw_law) (lt_b kLaw_law) (pc_Law_law) (pc_Law_law 3) (i_Law_law_3) = true := by decide +kernel
theorem fit_Law_law_5 : sm_fit (lt_R kLaw_law) (lt_n kLaw_law) (lt_fl kLaw_law).1 (lt_fl kLaw_law).2 (lt_r kLaw_law) (lt_b kLaw_law) (pc_Law_law) (pc_Law_law 5) (i_Law_law_5) = true := by decide +kernel
theorem fit_Law_law_6 : sm_fit (lt_R kLaw_law) (lt_n kLaw_law) (lt_fl kLaw_law).1 (lt_fl kLaw_law).2 (lt_r kLaw_law) (lt_b kLaw_law) (pc_Law_law) (pc_Law_law 6) (i_Law_law_6) = true := by decide +kernel
theorem fit_Law_law_7 : sm_fit (lt_R kLaw_law) (lt_n kLaw_law) (lt_fl kLaw_law).1 (lt_fl kLaw_law).2 (lt_r kLaw_law) (lt_b kLaw_law) (pc_Law_law) (pc_Law_law 7) (i_Law_law_7) = true := by decide +kernel
theorem fit_Law_law_8 : sm_fit (lt_R kLaw_law) (lt_n kLaw_law) (lt_fl kLaw_law).1 (lt_fl kLaw_law).2 (lt_r kLaw_law) (lt_b kLaw_law) (pc_Law_law) (pc_Law_law 8) (i_Law_law_8) = true := by decide +kernel
theorem fit_Law_law_9 : sm_fit (lt_R kLaw_law) (lt_n kLaw_law) (lt_fl kLaw_law).1 (lt_fl kLaw_law).2 (lt_r kLaw_law) (lt_b kLaw_law) (pc_Law_law) (pc_Law_law 9) (i_Law_law_9) = true := by decide +kernel
theorem fit_Law_law_10 : sm_fit (lt_R kLaw_law) (lt_n kLaw_law) (lt_fl kLaw_law).1 (lt_fl kLaw_law).2 (lt_r kLaw_law) (lt_b kLaw_law) (pc_Law_law) (pc_Law_law 10) (i_Law_law_10) = true := by decide +kernel
theorem fit_Law_law_12 : sm_fit (lt_R kLaw_law) (lt_n kLaw_law) (lt_fl kLaw_law).1 (lt_fl kLaw_law).2 (lt_r kLaw_law) (lt_b kLaw_law) (pc_Law_law) (pc_Law_law 12) (i_Law_law_12) = true := by decide +kernel
theorem fit_Law_law_13 : sm_fit (lt_R kLaw_law) (lt_n kLaw_law) (lt_fl kLaw_law).1 (lt_fl kLaw_law).2 (lt_r kLaw_law) (lt_b kLaw_law) (pc_Law_law) (pc_Law_law 13) (i_Law_law_13) = true := by decide +kernel
theorem fit_Law_law_14 : sm_fit (lt_R kLaw_law) (lt_n kLaw_law) (lt_fl kLaw_law).1 (lt_fl kLaw_law).2 (lt_r kLaw_law) (lt_b kLaw_law) (pc_Law_law) (pc_Law_law 14) (i_Law_law_14) = true := by decide +kernel
theorem fit_Law_law_15 : sm_fit (lt_R kLaw_law) (lt_n kLaw_law) (lt_fl kLaw_law).1 (lt_fl kLaw_law).2 (lt_r kLaw_law) (lt_b kLaw_law) (pc_Law_law) (pc_Law_law 15) (i_Law_law_15) = true := by decide +kernel
theorem fit_Law_law_16 : sm_fit (lt_R kLaw_law) (lt_n kLaw_law) (lt_fl kLaw_law).1 (lt_fl kLaw_law).2 (lt_r kLaw_law) (lt_b kLaw_law) (pc_Law_law) (pc_Law_law 16) (i_Law_law_16) = true := by decide +kernel
theorem fit_Law_law_17 : sm_fit (lt_R kLaw_law) (lt_n kLaw_law) (lt_fl kLaw_law).1 (lt_fl kLaw_law).2 (lt_r kLaw_law) (lt_b kLaw_law) (pc_Law_law) (pc_Law_law 17) (i_Law_law_17) = true := by decide +kernel
theorem fit_Law_law_19 : sm_fit (lt_R kLaw_law) (lt_n kLaw_law) (lt_fl kLaw_law).1 (lt_fl kLaw_law).2 (lt_r kLaw_law) (lt_b kLaw_law) (pc_Law_law) (pc_Law_law 19) (i_Law_law_19) = true := by decide +kernel
theorem fit_Law_law_20 : sm_fit (lt_R kLaw_law) (lt_n kLaw_law) (lt_fl kLaw_law).1 (lt_fl kLaw_law).2 (lt_r kLaw_law) (lt_b kLaw_law) (pc_Law_law) (pc_Law_law 20) (i_Law_law_20) = true := by decide +kernel
theorem fit_Law_law_21 : sm_fit (lt_R kLaw_law) (lt_n kLaw_law) (lt_fl kLaw_law).1 (lt_fl kLaw_law).2 (lt_r kLaw_law) (lt_b kLaw_law) (pc_Law_law) (pc_Law_law 21) (i_Law_law_21) = true := by decide +kernel
theorem fit_Law_law_22 : sm_fit (lt_R kLaw_law) (lt_n kLaw_law) (lt_fl kLaw_law).1 (lt_fl kLaw_law).2 (lt_r kLaw_law) (lt_b kLaw_law) (pc_Law_law) (pc_Law_law 22) (i_Law_law_22) = true := by decide +kernel
theorem fit_Law_law_23 : sm_fit (lt_R kLaw_law) (lt_n kLaw_law) (lt_fl kLaw_law).1 (lt_fl kLaw_law).2 (lt_r kLaw_law) (lt_b kLaw_law) (pc_Law_law) (pc_Law_law 23) (i_Law_law_23) = true := by decide +kernel
theorem fit_Law_law_24 : sm_fit (lt_R kLaw_law) (lt_n kLaw_law) (lt_fl kLaw_law).1 (lt_fl kLaw_law).2 (lt_r kLaw_law) (lt_b kLaw_law) (pc_Law_law) (pc_Law_law 24) (i_Law_law_24) = true := by decide +kernel
theorem fit_Law_law_26 : sm_fit (lt_R kLaw_law) (lt_n kLaw_law) (lt_fl kLaw_law).1 (lt_fl kLaw_law).2 (lt_r kLaw_law) (lt_b kLaw_law) (pc_Law_law) (pc_Law_law 26) (i_Law_law_26) = true := by decide +kernel
theorem fit_Law_law_27 : sm_fit (lt_R kLaw_law) (lt_n kLaw_law) (lt_fl kLaw_law).1 (lt_fl kLaw_law).2 (lt_r kLaw_law) (lt_b kLaw_law) (pc_Law_law) (pc_Law_law 27) (i_Law_law_27) = true := by decide +kernel
theorem fit_Law_law_28 : sm_fit (lt_R kLaw_law) (lt_n kLaw_law) (lt_fl kLaw_law).1 (lt_fl kLaw_law).2 (lt_r kLaw_law) (lt_b kLaw_law) (pc_Law_law) (pc_Law_law 28) (i_Law_law_28) = true := by decide +kernel
theorem fit_Law_law_29 : sm_fit (lt_R kLaw_law) (lt_n kLaw_law) (lt_fl kLaw_law).1 (lt_fl kLaw_law).2 (lt_r kLaw_law) (lt_b kLaw_law) (pc_Law_law) (pc_Law_law 29) (i_Law_law_29) = true := by decide +kernel
theorem fit_Law_law_30 : sm_fit (lt_R kLaw_law) (lt_n kLaw_law) (lt_fl kLaw_law).1 (lt_fl kLaw_law).2 (lt_r kLaw_law) (lt_b kLaw_law) (pc_Law_law) (pc_Law_law 30) (i_Law_law_30) = true := by decide +kernel
theorem fit_Law_law_31 : sm_fit (lt_R kLaw_law) (lt_n kLaw_law) (lt_fl kLaw_law).1 (lt_fl kLaw_law).2 (lt_r kLaw_law) (lt_b kLaw_law) (pc_Law_law) (pc_Law_law 31) (i_Law_law_31) = true := by decide +kernel
theorem fit_Law_law_33 : sm_fit (lt_R kLaw_law) (lt_n kLaw_law) (lt_fl kLaw_law).1 (lt_fl kLaw_law).2 (lt_r kLaw_law) (lt_b kLaw_law) (pc_Law_law) (pc_Law_law 33) (i_Law_law_33) = true := by decide +kernel
theorem fit_Law_law_34 : sm_fit (lt_R kLaw_law) (lt_n kLaw_law) (lt_fl kLaw_law).1 (lt_fl kLaw_law).2 (lt_r kLaw_law) (lt_b kLaw_law) (pc_Law_law) (pc_Law_law 34) (i_Law_law_34) = true := by decide +kernel
theorem fit_Law_law_35 : sm_fit (lt_R kLaw_law) (lt_n kLaw_law) (lt_fl kLaw_law).1 (lt_fl kLaw_law).2 (lt_r kLaw_law) (lt_b kLaw_law) (pc_Law_law) (pc_Law_law 35) (i_Law_law_35) = true := by decide +kernel
theorem fit_Law_law_36 : sm_fit (lt_R kLaw_law) (lt_n kLaw_law) (lt_fl kLaw_law).1 (lt_fl kLaw_law).2 (lt_r kLaw_law) (lt_b kLaw_law) (pc_Law_law) (pc_Law_law 36) (i_Law_law_36) = true := by decide +kernel
theorem fit_Law_law_37 : sm_fit (lt_R kLaw_law) (lt_n kLaw_law) (lt_fl kLaw_law).1 (lt_fl kLaw_law).2 (lt_r kLaw_law) (lt_b kLaw_law) (pc_Law_law) (pc_Law_law 37) (i_Law_law_37) = true := by decide +kernel
theorem fit_Law_law_38 : sm_fit (lt_R kLaw_law) (lt_n kLaw_law) (lt_fl kLaw_law).1 (lt_fl kLaw_law).2 (lt_r kLaw_law) (lt_b kLaw_law) (pc_Law_law) (pc_Law_law 38) (i_Law_law_38) = true := by decide +kernel
theorem fit_Law_law_40 : sm_fit (lt_R kLaw_law) (lt_n kLaw_law) (lt_fl kLaw_law).1 (lt_fl kLaw_law).2 (lt_r kLaw_law) (lt_b kLaw_law) (pc_Law_law) (pc_Law_law 40) (i_Law_law_40) = true := by decide +kernel
theorem fit_Law_law_41 : sm_fit (lt_R kLaw_law) (lt_n kLaw_law) (lt_fl kLaw_law).1 (lt_fl kLaw_law).2 (lt_r kLaw_law) (lt_b kLaw_law) (pc_Law_law) (pc_Law_law 41) (i_Law_law_41) = true := by decide +kernel
theorem fit_Law_law_42 : sm_fit (lt_R kLaw_law) (lt_n kLaw_law) (lt_fl kLaw_law).1 (lt_fl kLaw_law).2 (lt_r kLaw_law) (lt_b kLaw_law) (pc_Law_law) (pc_Law_law 42) (i_Law_law_42) = true := by decide +kernel
theorem fit_Law_law_43 : sm_fit (lt_R kLaw_law) (lt_n kLaw_law) (lt_fl kLaw_law).1 (lt_fl kLaw_law).2 (lt_r kLaw_law) (lt_b kLaw_law) (pc_Law_law) (pc_Law_law 43) (i_Law_law_43) = true := by decide +kernel
theorem fit_Law_law_44 : sm_fit (lt_R kLaw_law) (lt_n kLaw_law) (lt_fl kLaw_law).1 (lt_fl kLaw_law).2 (lt_r kLaw_law) (lt_b kLaw_law) (pc_Law_law) (pc_Law_law 44) (i_Law_law_44) = true := by decide +kernel
theorem fit_Law_law_45 : sm_fit (lt_R kLaw_law) (lt_n kLaw_law) (lt_fl kLaw_law).1 (lt_fl kLaw_law).2 (lt_r kLaw_law) (lt_b kLaw_law) (pc_Law_law) (pc_Law_law 45) (i_Law_law_45) = true := by decide +kernel
theorem fit_Law_law_47 : sm_fit (lt_R kLaw_law) (lt_n kLaw_law) (lt_fl kLaw_law).1 (lt_fl kLaw_law).2 (lt_r kLaw_law) (lt_b kLaw_law) (pc_Law_law) (pc_Law_law 47) (i_Law_law_47) = true := by decide +kernel
theorem fit_Law_law_48 : sm_fit (lt_R kLaw_law) (lt_n kLaw_law) (lt_fl kLaw_law).1 (lt_fl kLaw_law).2 (lt_r kLaw_law) (lt_b kLaw_law) (pc_Law_law) (pc_Law_law 48) (i_Law_law_48) = true := by decide +kernel
theorem fit_Law_law_49 : sm_fit (lt_R kLaw_law) (lt_n kLaw_law) (lt_fl kLaw_law).1 (lt_fl kLaw_law).2 (lt_r kLaw_law) (lt_b kLaw_law) (pc_Law_law) (pc_Law_law 49) (i_Law_law_49) = true := by decide +kernel
theorem fit_Law_law_50 : sm_fit (lt_R kLaw_law) (lt_n kLaw_law) (lt_fl kLaw_law).1 (lt_fl kLaw_law).2 (lt_r kLaw_law) (lt_b kLaw_law) (pc_Law_law) (pc_Law_law 50) (i_Law_law_50) = true := by decide +kernel
theorem fit_Law_law_51 : sm_fit (lt_R kLaw_law) (lt_n kLaw_law) (lt_fl kLaw_law).1 (lt_fl kLaw_law).2 (lt_r kLaw_law) (lt_b kLaw_law) (pc_Law_law) (pc_Law_law 51) (i_Law_law_51) = true := by decide +kernel
theorem fit_Law_law_52 : sm_fit (lt_R kLaw_law) (lt_n kLaw_law) (lt_fl kLaw_law).1 (lt_fl kLaw_law).2 (lt_r kLaw_law) (lt_b kLaw_law) (pc_Law_law) (pc_Law_law 52) (i_Law_law_52) = true := by decide +kernel
theorem fit_Law_law_54 : sm_fit (lt_R kLaw_law) (lt_n kLaw_law) (lt_fl kLaw_law).1 (lt_fl kLaw_law).2 (lt_r kLaw_law) (lt_b kLaw_law) (pc_Law_law) (pc_Law_law 54) (i_Law_law_54) = true := by decide +kernel
theorem fit_Law_law_55 : sm_fit (lt_R kLaw_law) (lt_n kLaw_law) (lt_fl kLaw_law).1 (lt_fl kLaw_law).2 (lt_r kLaw_law) (lt_b kLaw_law) (pc_Law_law) (pc_Law_law 55) (i_Law_law_55) = true := by decide +kernel
theorem fit_Law_law_56 : sm_fit (lt_R kLaw_law) (lt_n kLaw_law) (lt_fl kLaw_law).1 (lt_fl kLaw_law).2 (lt_r kLaw_law) (lt_b kLaw_law) (pc_Law_law) (pc_Law_law 56) (i_Law_law_56) = true := by decide +kernel
theorem fit_Law_law_57 : sm_fit (lt_R kLaw_law) (lt_n kLaw_law) (lt_fl kLaw_law).1 (lt_fl kLaw_law).2 (lt_r kLaw_law) (lt_b kLaw_law) (pc_Law_law) (pc_Law_law 57) (i_Law_law_57) = true := by decide +kernel
theorem fit_Law_law_58 : sm_fit (lt_R kLaw_law) (lt_n kLaw_law) (lt_fl kLaw_law).1 (lt_fl kLaw_law).2 (lt_r kLaw_law) (lt_b kLaw_law) (pc_Law_law) (pc_Law_law 58) (i_Law_law_58) = true := by decide +kernel
theorem fit_Law_law_59 : sm_fit (lt_R kLaw_law) (lt_n kLaw_law) (lt_fl kLaw_law).1 (lt_fl kLaw_law).2 (lt_r kLaw_law) (lt_b kLaw_law) (pc_Law_law) (pc_Law_law 59) (i_Law_law_59) = true := by decide +kernel
theorem fit_Law_law_61 : sm_fit (lt_R kLaw_law) (lt_n kLaw_law) (lt_fl kLaw_law).1 (lt_fl kLaw_law).2 (lt_r kLaw_law) (lt_b kLaw_law) (pc_Law_law) (pc_Law_law 61) (i_Law_law_61) = true := by decide +kernel
theorem fit_Law_law_62 : sm_fit (lt_R kLaw_law) (lt_n kLaw_law) (lt_fl kLaw_law).1 (lt_fl kLaw_law).2 (lt_r kLaw_law) (lt_b kLaw_law) (pc_Law_law) (pc_Law_law 62) (i_Law_law_62) = true := by decide +kernel
theorem fit_Law_law_63 : sm_fit (lt_R kLaw_law) (lt_n kLaw_law) (lt_fl kLaw_law).1 (lt_fl kLaw_law).2 (lt_r kLaw_law) (lt_b kLaw_law) (pc_Law_law) (pc_Law_law 63) (i_Law_law_63) = true := by decide +kernel
theorem fit_Law_law_64 : sm_fit (lt_R kLaw_law) (lt_n kLaw_law) (lt_fl kLaw_law).1 (lt_fl kLaw_law).2 (lt_r kLaw_law) (lt_b kLaw_law) (pc_Law_law) (pc_Law_law 64) (i_Law_law_64) = true := by decide +kernel
theorem fit_Law_law_65 : sm_fit (lt_R kLaw_law) (lt_n kLaw_law) (lt_fl kLaw_law).1 (lt_fl kLaw_law).2 (lt_r kLaw_law) (lt_b kLaw_law) (pc_Law_law) (pc_Law_law 65) (i_Law_law_65) = true := by decide +kernel
theorem fit_Law_law_66 : sm_fit (lt_R kLaw_law) (lt_n kLaw_law) (lt_fl kLaw_law).1 (lt_fl kLaw_law).2 (lt_r kLaw_law) (lt_b kLaw_law) (pc_Law_law) (pc_Law_law 66) (i_Law_law_66) = true := by decide +kernel
theorem fit_Law_law_68 : sm_fit (lt_R kLaw_law) (lt_n kLaw_law) (lt_fl kLaw_law).1 (lt_fl kLaw_law).2 (lt_r kLaw_law) (lt_b kLaw_law) (pc_Law_law) (pc_Law_law 68) (i_Law_law_68) = true := by decide +kernel
theorem fit_Law_law_69 : sm_fit (lt_R kLaw_law) (lt_n kLaw_law) (lt_fl kLaw_law).1 (lt_fl kLaw_law).2 (lt_r kLaw_law) (lt_b kLaw_law) (pc_Law_law) (pc_Law_law 69) (i_Law_law_69) = true := by decide +kernel
theorem fit_Law_law_70 : sm_fit (lt_R kLaw_law) (lt_n kLaw_law) (lt_fl kLaw_law).1 (lt_fl kLaw_law).2 (lt_r kLaw_law) (lt_b kLaw_law) (pc_Law_law) (pc_Law_law 70) (i_Law_law_70) = true := by decide +kernel
theorem fit_Law_law_71 : sm_fit (lt_R kLaw_law) (lt_n kLaw_law) (lt_fl kLaw_law).1 (lt_fl kLaw_law).2 (lt_r kLaw_law) (lt_b kLaw_law) (pc_Law_law) (pc_Law_law 71) (i_Law_law_71) = true := by decide +kernel
theorem fit_Law_law_72 : sm_fit (lt_R kLaw_law) (lt_n kLaw_law) (lt_fl kLaw_law).1 (lt_fl kLaw_law).2 (lt_r kLaw_law) (lt_b kLaw_law) (pc_Law_law) (pc_Law_law 72) (i_Law_law_72) = true := by decide +kernel
theorem fit_Law_law_73 : sm_fit (lt_R kLaw_law) (lt_n kLaw_law) (lt_fl kLaw_law).1 (lt_fl kLaw_law).2 (lt_r kLaw_law) (lt_b kLaw_law) (pc_Law_law) (pc_Law_law 73) (i_Law_law_73) = true := by decide +kernel
theorem fit_Law_law_75 : sm_fit (lt_R kLaw_law) (lt_n kLaw_law) (lt_fl kLaw_law).1 (lt_fl kLaw_law).2 (lt_r kLaw_law) (lt_b kLaw_law) (pc_Law_law) (pc_Law_law 75) (i_Law_law_75) = true := by decide +kernel
theorem fit_Law_law_76 : sm_fit (lt_R kLaw_law) (lt_n kLaw_law) (lt_fl kLaw_law).1 (lt_fl kLaw_law).2 (lt_r kLaw_law) (lt_b kLaw_law) (pc_Law_law) (pc_Law_law 76) (i_Law_law_76) = true := by decide +kernel
theorem fit_Law_law_77 : sm_fit (lt_R kLaw_law) (lt_n kLaw_law) (lt_fl kLaw_law).1 (lt_fl kLaw_law).2 (lt_r kLaw_law) (lt_b kLaw_law) (pc_Law_law) (pc_Law_law 77) (i_Law_law_77) = true := by decide +kernel
theorem fit_Law_law_78 : sm_fit (lt_R kLaw_law) (lt_n kLaw_law) (lt_fl kLaw_law).1 (lt_fl kLaw_law).2 (lt_r kLaw_law) (lt_b kLaw_law) (pc_Law_law) (pc_Law_law 78) (i_Law_law_78) = true := by decide +kernel
theorem fit_Law_law_79 : sm_fit (lt_R kLaw_law) (lt_n kLaw_law) (lt_fl kLaw_law).1 (lt_fl kLaw_law).2 (lt_r kLaw_law) (lt_b kLaw_law) (pc_Law_law) (pc_Law_law 79) (i_Law_law_79) = true := by decide +kernel
theorem fit_Law_law_80 : sm_fit (lt_R kLaw_law) (lt_n kLaw_law) (lt_fl kLaw_law).1 (lt_fl kLaw_law).2 (lt_r kLaw_law) (lt_b kLaw_law) (pc_Law_law) (pc_Law_law 80) (i_Law_law_80) = true := by decide +kernel
theorem fit_Law_law_81 : sm_fit (lt_R kLaw_law) (lt_n kLaw_law) (lt_fl kLaw_law).1 (lt_fl kLaw_law).2 (lt_r kLaw_law) (lt_b kLaw_law) (pc_Law_law) (pc_Law_law 81) (i_Law_law_81) = true := by decide +kernel
theorem fit_Law_law_82 : sm_fit (lt_R kLaw_law) (lt_n kLaw_law) (lt_fl kLaw_law).1 (lt_fl kLaw_law).2 (lt_r kLaw_law) (lt_b kLaw_law) (pc_Law_law) (pc_Law_law 82) (i_Law_law_82) = true := by decide +kernel
theorem fit_Law_law_83 : sm_fit (lt_R kLaw_law) (lt_n kLaw_law) (lt_fl kLaw_law).1 (lt_fl kLaw_law).2 (lt_r kLaw_law) (lt_b kLaw_law) (pc_Law_law) (pc_Law_law 83) (i_Law_law_83) = true := by decide +kernel
theorem fit_Law_law_84 : sm_fit (lt_R kLaw_law) (lt_n kLaw_law) (lt_fl kLaw_law).1 (lt_fl kLaw_law).2 (lt_r kLaw_law) (lt_b kLaw_law) (pc_Law_law) (pc_Law_law 84) (i_Law_law_84) = true := by decide +kernel
theorem fit_Law_law_86 : sm_fit (lt_R kLaw_law) (lt_n kLaw_law) (lt_fl kLaw_law).1 (lt_fl kLaw_law).2 (lt_r kLaw_law) (lt_b kLaw_law) (pc_Law_law) (pc_Law_law 86) (i_Law_law_86) = true := by decide +kernel
theorem fit_Law_law_87 : sm_fit (lt_R kLaw_law) (lt_n kLaw_law) (lt_fl kLaw_law).1 (lt_fl kLaw_law).2 (lt_r kLaw_law) (lt_b kLaw_law) (pc_Law_law) (pc_Law_law 87) (i_Law_law_87) = true := by decide +kernel
theorem fit_Law_law_88 : sm_fit (lt_R kLaw_law) (lt_n kLaw_law) (lt_fl kLaw_law).1 (lt_fl kLaw_law).2 (lt_r kLaw_law) (lt_b kLaw_law) (pc_Law_law) (pc_Law_law 88) (i_Law_law_88) = true := by decide +kernel
theorem fit_Law_law_89 : sm_fit (lt_R kLaw_law) (lt_n kLaw_law) (lt_fl kLaw_law).1 (lt_fl kLaw_law).2 (lt_r kLaw_law) (lt_b kLaw_law) (pc_Law_law) (pc_Law_law 89) (i_Law_law_89) = true := by decide +kernel
theorem fit_Law_law_90 : sm_fit (lt_R kLaw_law) (lt_n kLaw_law) (lt_fl kLaw_law).1 (lt_fl kLaw_law).2 (lt_r kLaw_law) (lt_b kLaw_law) (pc_Law_law) (pc_Law_law 90) (i_Law_law_90) = true := by decide +kernel
theorem fit_Law_law_91 : sm_fit (lt_R kLaw_law) (lt_n kLaw_law) (lt_fl kLaw_law).1 (lt_fl kLaw_law).2 (lt_r kLaw_law) (lt_b kLaw_law) (pc_Law_law) (pc_Law_law 91) (i_Law_law_91) = true := by decide +kernel
theorem fit_Law_law_92 : sm_fit (lt_R kLaw_law) (lt_n kLaw_law) (lt_fl kLaw_law).1 (lt_fl kLaw_law).2 (lt_r kLaw_law) (lt_b kLaw_law) (pc_Law_law) (pc_Law_law 92) (i_Law_law_92) = true := by decide +kernel
theorem fit_Law_law_93 : sm_fit (lt_R kLaw_law) (lt_n kLaw_law) (lt_fl kLaw_law).1 (lt_fl kLaw_law).2 (lt_r kLaw_law) (lt_b kLaw_law) (pc_Law_law) (pc_Law_law 93) (i_Law_law_93) = true := by decide +kernel
theorem fit_Law_law_94 : sm_fit (lt_R kLaw_law) (lt_n kLaw_law) (lt_fl kLaw_law).1 (lt_fl kLaw_law).2 (lt_r kLaw_law) (lt_b kLaw_law) (pc_Law_law) (pc_Law_law 94) (i_Law_law_94) = true := by decide +kernel
theorem fit_Law_law_95 : sm_fit (lt_R kLaw_law) (lt_n kLaw_law) (lt_fl kLaw_law).1 (lt_fl kLaw_law).2 (lt_r kLaw_law) (lt_b kLaw_law) (pc_Law_law) (pc_Law_law 95) (i_Law_law_95) = true := by decide +kernel
theorem fit_Law_law_96 : sm_fit (lt_R kLaw_law) (lt_n kLaw_law) (lt_fl kLaw_law).1 (lt_fl kLaw_law).2 (lt_r kLaw_law) (lt_b kLaw_law) (pc_Law_law) (pc_Law_law 96) (i_Law_law_96) = true := by decide +kernel
theorem fit_Law_law_97 : sm_fit (lt_R kLaw_law) (lt_n kLaw_law) (lt_fl kLaw_law).1 (lt_fl kLaw_law).2 (lt_r kLaw_law) (lt_b kLaw_law) (pc_Law_law) (pc_Law_law 97) (i_Law_law_97) = true := by decide +kernel
theorem fit_Law_law_99 : sm_fit (lt_R kLaw_law) (lt_n kLaw_law) (lt_fl kLaw_law).1 (lt_fl kLaw_law).2 (lt_r kLaw_law) (lt_b kLaw_law) (pc_Law_law) (pc_Law_law 99) (i_Law_law_99) = true := by decide +kernel
theorem fit_Law_law_100 : sm_fit (lt_R kLaw_law) (lt_n kLaw_law) (lt_fl kLaw_law).1 (lt_fl kLaw_law).2 (lt_r kLaw_law) (lt_b kLaw_law) (pc_Law_law) (pc_Law_law 100) (i_Law_law_100) = true := by decide +kernel
theorem fit_Law_law_101 : sm_fit (lt_R kLaw_law) (lt_n kLaw_law) (lt_fl kLaw_law).1 (lt_fl kLaw_law).2 (lt_r kLaw_law) (lt_b kLaw_law) (pc_Law_law) (pc_Law_law 101) (i_Law_law_101) = true := by decide +kernel
theorem fit_Law_law_102 : sm_fit (lt_R kLaw_law) (lt_n kLaw_law) (lt_fl kLaw_law).1 (lt_fl kLaw_law).2 (lt_r kLaw_law) (lt_b kLaw_law) (pc_Law_law) (pc_Law_law 102) (i_Law_law_102) = true := by decide +kernel
theorem fit_Law_law_103 : sm_fit (lt_R kLaw_law) (lt_n kLaw_law) (lt_fl kLaw_law).1 (lt_fl kLaw_law).2 (lt_r kLaw_law) (lt_b kLaw_law) (pc_Law_law) (pc_Law_law 103) (i_Law_law_103) = true := by decide +kernel
theorem fit_Law_law_104 : sm_fit (lt_R kLaw_law) (lt_n kLaw_law) (lt_fl kLaw_law).1 (lt_fl kLaw_law).2 (lt_r kLaw_law) (lt_b kLaw_law) (pc_Law_law) (pc_Law_law 104) (i_Law_law_104) = true := by decide +kernel
theorem fit_Law_law_106 : sm_fit (lt_R kLaw_law) (lt_n kLaw_law) (lt_fl kLaw_law).1 (lt_fl kLaw_law).2 (lt_r kLaw_law) (lt_b kLaw_law) (pc_Law_law) (pc_Law_law 106) (i_Law_law_106) = true := by decide +kernel
theorem fit_Law_law_107 : sm_fit (lt_R kLaw_law) (lt_n kLaw_law) (lt_fl kLaw_law).1 (lt_fl kLaw_law).2 (lt_r kLaw_law) (lt_b kLaw_law) (pc_Law_law) (pc_Law_law 107) (i_Law_law_107) = true := by decide +kernel
theorem fit_Law_law_108 : sm_fit (lt_R kLaw_law) (lt_n kLaw_law) (lt_fl kLaw_law).1 (lt_fl kLaw_law).2 (lt_r kLaw_law) (lt_b kLaw_law) (pc_Law_law) (pc_Law_law 108) (i_Law_law_108) = true := by decide +kernel
theorem fit_Law_law_109 : sm_fit (lt_R kLaw_law) (lt_n kLaw_law) (lt_fl kLaw_law).1 (lt_fl kLaw_law).2 (lt_r kLaw_law) (lt_b kLaw_law) (pc_Law_law) (pc_Law_law 109) (i_Law_law_109) = true := by decide +kernel
theorem fit_Law_law_110 : sm_fit (lt_R kLaw_law) (lt_n kLaw_law) (lt_fl kLaw_law).1 (lt_fl kLaw_law).2 (lt_r kLaw_law) (lt_b kLaw_law) (pc_Law_law) (pc_Law_law 110) (i_Law_law_110) = true := by decide +kernel
theorem fit_Law_law_111 : sm_fit (lt_R kLaw_law) (lt_n kLaw_law) (lt_fl kLaw_law).1 (lt_fl kLaw_law).2 (lt_r kLaw_law) (lt_b kLaw_law) (pc_Law_law) (pc_Law_law 111) (i_Law_law_111) = true := by decide +kernel
theorem fit_Law_law_113 : sm_fit (lt_R kLaw_law) (lt_n kLaw_law) (lt_fl kLaw_law).1 (lt_fl kLaw_law).2 (lt_r kLaw_law) (lt_b kLaw_law) (pc_Law_law) (pc_Law_law 113) (i_Law_law_113) = true := by decide +kernel
theorem fit_Law_law_114 : sm_fit (lt_R kLaw_law) (lt_n kLaw_law) (lt_fl kLaw_law).1 (lt_fl kLaw_law).2 (lt_r kLaw_law) (lt_b kLaw_law) (pc_Law_law) (pc_Law_law 114) (i_Law_law_114) = true := by decide +kernel
theorem fit_Law_law_115 : sm_fit (lt_R kLaw_law) (lt_n kLaw_law) (lt_fl kLaw_law).1 (lt_fl kLaw_law).2 (lt_r kLaw_law) (lt_b kLaw_law) (pc_Law_law) (pc_Law_law 115) (i_Law_law_115) = true := by decide +kernel
theorem fit_Law_law_116 : sm_fit (lt_R kLaw_law) (lt_n kLaw_law) (lt_fl kLaw_law).1 (lt_fl kLaw_law).2 (lt_r kLaw_law) (lt_b kLaw_law) (pc_Law_law) (pc_Law_law 116) (i_Law_law_116) = true := by decide +kernel
theorem fit_Law_law_117 : sm_fit (lt_R kLaw_law) (lt_n kLaw_law) (lt_fl kLaw_law).1 (lt_fl kLaw_law).2 (lt_r kLaw_law) (lt_b kLaw_law) (pc_Law_law) (pc_Law_law 117) (i_Law_law_117) = true := by decide +kernel
theorem fit_Law_law_118 : sm_fit (lt_R kLaw_law) (lt_n kLaw_law) (lt_fl kLaw_law).1 (lt_fl kLaw_law).2 (lt_r kLaw_law) (lt_b kLaw_law) (pc_Law_law) (pc_Law_law 118) (i_Law_law_118) = true := by decide +kernel
theorem fit_Law_law_120 : sm_fit (lt_R kLaw_law) (lt_n kLaw_law) (lt_fl kLaw_law).1 (lt_fl kLaw_law).2 (lt_r kLaw_law) (lt_b kLaw_law) (pc_Law_law) (pc_Law_law 120) (i_Law_law_120) = true := by decide +kernel
theorem fit_Law_law_121 : sm_fit (lt_R kLaw_law) (lt_n kLaw_law) (lt_fl kLaw_law).1 (lt_fl kLaw_law).2 (lt_r kLaw_law) (lt_b kLaw_law) (pc_Law_law) (pc_Law_law 121) (i_Law_law_121) = true := by decide +kernel
theorem fit_Law_law_122 : sm_fit (lt_R kLaw_law) (lt_n kLaw_law) (lt_fl kLaw_law).1 (lt_fl kLaw_law).2 (lt_r kLaw_law) (lt_b kLaw_law) (pc_Law_law) (pc_Law_law 122) (i_Law_law_122) = true := by decide +kernel
theorem fit_Law_law_123 : sm_fit (lt_R kLaw_law) (lt_n kLaw_law) (lt_fl kLaw_law).1 (lt_fl kLaw_law).2 (lt_r kLaw_law) (lt_b kLaw_law) (pc_Law_law) (pc_Law_law 123) (i_Law_law_123) = true := by decide +kernel
theorem fit_Law_law_124 : sm_fit (lt_R kLaw_law) (lt_n kLaw_law) (lt_fl kLaw_law).1 (lt_fl kLaw_law).2 (lt_r kLaw_law) (lt_b kLaw_law) (pc_Law_law) (pc_Law_law 124) (i_Law_law_124) = true := by decide +kernel
theorem fit_Law_law_125 : sm_fit (lt_R kLaw_law) (lt_n kLaw_law) (lt_fl kLaw_law).1 (lt_fl kLaw_law).2 (lt_r kLaw_law) (lt_b kLaw_law) (pc_Law_law) (pc_Law_law 125) (i_Law_law_125) = true := by decide +kernel
theorem fit_Law_law_127 : sm_fit (lt_R kLaw_law) (lt_n kLaw_law) (lt_fl kLaw_law).1 (lt_fl kLaw_law).2 (lt_r kLaw_law) (lt_b kLaw_law) (pc_Law_law) (pc_Law_law 127) (i_Law_law_127) = true := by decide +kernel
theorem fit_Law_law_128 : sm_fit (lt_R kLaw_law) (lt_n kLaw_law) (lt_fl kLaw_law).1 (lt_fl kLaw_law).2 (lt_r kLaw_law) (lt_b kLaw_law) (pc_Law_law) (pc_Law_law 128) (i_Law_law_128) = true := by decide +kernel
theorem fit_Law_law_129 : sm_fit (lt_R kLaw_law) (lt_n kLaw_law) (lt_fl kLaw_law).1 (lt_fl kLaw_law).2 (lt_r kLaw_law) (lt_b kLaw_law) (pc_Law_law) (pc_Law_law 129) (i_Law_law_129) = true := by decide +kernel
theorem fit_Law_law_130 : sm_fit (lt_R kLaw_law) (lt_n kLaw_law) (lt_fl kLaw_law).1 (lt_fl kLaw_law).2 (lt_r kLaw_law) (lt_b kLaw_law) (pc_Law_law) (pc_Law_law 130) (i_Law_law_130) = true := by decide +kernel
theorem fit_Law_law_131 : sm_fit (lt_R kLaw_law) (lt_n kLaw_law) (lt_fl kLaw_law).1 (lt_fl kLaw_law).2 (lt_r kLaw_law) (lt_b kLaw_law) (pc_Law_law) (pc_Law_law 131) (i_Law_law_131) = true := by decide +kernel
theorem fit_Law_law_132 : sm_fit (lt_R kLaw_law) (lt_n kLaw_law) (lt_fl kLaw_law).1 (lt_fl kLaw_law).2 (lt_r kLaw_law) (lt_b kLaw_law) (pc_Law_law) (pc_Law_law 132) (i_Law_law_132) = true := by decide +kernel
theorem fit_Law_law_134 : sm_fit (lt_R kLaw_law) (lt_n kLaw_law) (lt_fl kLaw_law).1 (lt_fl kLaw_law).2 (lt_r kLaw_law) (lt_b kLaw_law) (pc_Law_law) (pc_Law_law 134) (i_Law_law_134) = true := by decide +kernel
theorem fit_Law_law_135 : sm_fit (lt_R kLaw_law) (lt_n kLaw_law) (lt_fl kLaw_law).1 (lt_fl kLaw_law).2 (lt_r kLaw_law) (lt_b kLaw_law) (pc_Law_law) (pc_Law_law 135) (i_Law_law_135) = true := by decide +kernel
theorem fit_Law_law_136 : sm_fit (lt_R kLaw_law) (lt_n kLaw_law) (lt_fl kLaw_law).1 (lt_fl kLaw_law).2 (lt_r kLaw_law) (lt_b kLaw_law) (pc_Law_law) (pc_Law_law 136) (i_Law_law_136) = true := by decide +kernel
theorem fit_Law_law_137 : sm_fit (lt_R kLaw_law) (lt_n kLaw_law) (lt_fl kLaw_law).1 (lt_fl kLaw_law).2 (lt_r kLaw_law) (lt_b kLaw_law) (pc_Law_law) (pc_Law_law 137) (i_Law_law_137) = true := by decide +kernel
theorem fit_Law_law_138 : sm_fit (lt_R kLaw_law) (lt_n kLaw_law) (lt_fl kLaw_law).1 (lt_fl kLaw_law).2 (lt_r kLaw_law) (lt_b kLaw_law) (pc_Law_law) (pc_Law_law 138) (i_Law_law_138) = true := by decide +kernel
theorem fit_Law_law_139 : sm_fit (lt_R kLaw_law) (lt_n kLaw_law) (lt_fl kLaw_law).1 (lt_fl kLaw_law).2 (lt_r kLaw_law) (lt_b kLaw_law) (pc_Law_law) (pc_Law_law 139) (i_Law_law_139) = true := by decide +kernel
theorem fit_Law_law_140 : sm_fit (lt_R kLaw_law) (lt_n kLaw_law) (lt_fl kLaw_law).1 (lt_fl kLaw_law).2 (lt_r kLaw_law) (lt_b kLaw_law) (pc_Law_law) (pc_Law_law 140) (i_Law_law_140) = true := by decide +kernel
theorem fit_Law_law_141 : sm_fit (lt_R kLaw_law) (lt_n kLaw_law) (lt_fl kLaw_law).1 (lt_fl kLaw_law).2 (lt_r kLaw_law) (lt_b kLaw_law) (pc_Law_law) (pc_Law_law 141) (i_Law_law_141) = true := by decide +kernel
theorem fit_Law_law_142 : sm_fit (lt_R kLaw_law) (lt_n kLaw_law) (lt_fl kLaw_law).1 (lt_fl kLaw_law).2 (lt_r kLaw_law) (lt_b kLaw_law) (pc_Law_law) (pc_Law_law 142) (i_Law_law_142) = true := by decide +kernel
theorem fit_Law_law_143 : sm_fit (lt_R kLaw_law) (lt_n kLaw_law) (lt_fl kLaw_law).1 (lt_fl kLaw_law).2 (lt_r kLaw_law) (lt_b kLaw_law) (pc_Law_law) (pc_Law_law 143) (i_Law_law_143) = true := by decide +kernel
theorem fit_Law_law_145 : sm_fit (lt_R kLaw_law) (lt_n kLaw_law) (lt_fl kLaw_law).1 (lt_fl kLaw_law).2 (lt_r kLaw_law) (lt_b kLaw_law) (pc_Law_law) (pc_Law_law 145) (i_Law_law_145) = true := by decide +kernel
theorem fit_Law_law_146 : sm_fit (lt_R kLaw_law) (lt_n kLaw_law) (lt_fl kLaw_law).1 (lt_fl kLaw_law).2 (lt_r kLaw_law) (lt_b kLaw_law) (pc_Law_law) (pc_Law_law 146) (i_Law_law_146) = true := by decide +kernel
theorem fit_Law_law_147 : sm_fit (lt_R kLaw_law) (lt_n kLaw_law) (lt_fl kLaw_law).1 (lt_fl kLaw_law).2 (lt_r kLaw_law) (lt_b kLaw_law) (pc_Law_law) (pc_Law_law 147) (i_Law_law_147) = true := by decide +kernel
theorem fit_Law_law_148 : sm_fit (lt_R kLaw_law) (lt_n kLaw_law) (lt_fl kLaw_law).1 (lt_fl kLaw_law).2 (lt_r kLaw_law) (lt_b kLaw_law) (pc_Law_law) (pc_Law_law 148) (i_Law_law_148) = true := by decide +kernel
theorem fit_Law_law_149 : sm_fit (lt_R kLaw_law) (lt_n kLaw_law) (lt_fl kLaw_law).1 (lt_fl kLaw_law).2 (lt_r kLaw_law) (lt_b kLaw_law) (pc_Law_law) (pc_Law_law 149) (i_Law_law_149) = true := by decide +kernel
theorem fit_Law_law_150 : sm_fit (lt_R kLaw_law) (lt_n kLaw_law) (lt_fl kLaw_law).1 (lt_fl kLaw_law).2 (lt_r kLaw_law) (lt_b kLaw_law) (pc_Law_law) (pc_Law_law 150) (i_Law_law_150) = true := by decide +kernel
theorem fit_Law_law_151 : sm_fit (lt_R kLaw_law) (lt_n kLaw_law) (lt_fl kLaw_law).1 (lt_fl kLaw_law).2 (lt_r kLaw_law) (lt_b kLaw_law) (pc_Law_law) (pc_Law_law 151) (i_Law_law_151) = true := by decide +kernel
/-! every method fits -/
theorem fitM_Body_restart : sm_FitM kBody_restart := by
  show ∀ b, sm_fit (lt_R kBody_restart) (lt_n kBody_restart) (lt_fl kBody_restart).1 (lt_fl kBody_restart).2 (lt_r kBody_restart) (lt_b kBody_restart) pc_Body_restart (pc_Body_restart b) (cd_Body_restart b) = true
  intro b
  match b with
  | 0 => exact fit_Body_restart_0
  | n + 1 => rfl
theorem fitM_Body_life : sm_FitM kBody_life := by
  show ∀ b, sm_fit (lt_R kBody_life) (lt_n kBody_life) (lt_fl kBody_life).1 (lt_fl kBody_life).2 (lt_r kBody_life) (lt_b kBody_life) pc_Body_life (pc_Body_life b) (cd_Body_life b) = true
  intro b
  match b with
  | 0 => exact fit_Body_life_0
  | n + 1 => rfl
theorem fitM_Body_broken : sm_FitM kBody_broken := by
  show ∀ b, sm_fit (lt_R kBody_broken) (lt_n kBody_broken) (lt_fl kBody_broken).1 (lt_fl kBody_broken).2 (lt_r kBody_broken) (lt_b kBody_broken) pc_Body_broken (pc_Body_broken b) (cd_Body_broken b) = true
  intro b
  match b with
  | 0 => exact fit_Body_broken_0
  | n + 1 => rfl
theorem fitM_Body_spot : sm_FitM kBody_spot := by
  show ∀ b, sm_fit (lt_R kBody_spot) (lt_n kBody_spot) (lt_fl kBody_spot).1 (lt_fl kBody_spot).2 (lt_r kBody_spot) (lt_b kBody_spot) pc_Body_spot (pc_Body_spot b) (cd_Body_spot b) = true
  intro b
  match b with
  | 0 => exact fit_Body_spot_0
  | n + 1 => rfl
theorem fitM_Body_goTo : sm_FitM kBody_goTo := by
  show ∀ b, sm_fit (lt_R kBody_goTo) (lt_n kBody_goTo) (lt_fl kBody_goTo).1 (lt_fl kBody_goTo).2 (lt_r kBody_goTo) (lt_b kBody_goTo) pc_Body_goTo (pc_Body_goTo b) (cd_Body_goTo b) = true
  intro b
  match b with
  | 0 => exact fit_Body_goTo_0
  | n + 1 => rfl
theorem fitM_Body_stepOf : sm_FitM kBody_stepOf := by
  show ∀ b, sm_fit (lt_R kBody_stepOf) (lt_n kBody_stepOf) (lt_fl kBody_stepOf).1 (lt_fl kBody_stepOf).2 (lt_r kBody_stepOf) (lt_b kBody_stepOf) pc_Body_stepOf (pc_Body_stepOf b) (cd_Body_stepOf b) = true
  intro b
  match b with
  | 0 => exact fit_Body_stepOf_0
  | 1 => exact fit_Body_stepOf_1
  | 2 => exact fit_Body_stepOf_2
  | 3 => exact fit_Body_stepOf_3
  | n + 4 => rfl
theorem fitM_Body_setStep : sm_FitM kBody_setStep := by
  show ∀ b, sm_fit (lt_R kBody_setStep) (lt_n kBody_setStep) (lt_fl kBody_setStep).1 (lt_fl kBody_setStep).2 (lt_r kBody_setStep) (lt_b kBody_setStep) pc_Body_setStep (pc_Body_setStep b) (cd_Body_setStep b) = true
  intro b
  match b with
  | 0 => exact fit_Body_setStep_0
  | 1 => exact fit_Body_setStep_1
  | 2 => exact fit_Body_setStep_2
  | n + 3 => rfl
theorem fitM_Body_valueOf : sm_FitM kBody_valueOf := by
  show ∀ b, sm_fit (lt_R kBody_valueOf) (lt_n kBody_valueOf) (lt_fl kBody_valueOf).1 (lt_fl kBody_valueOf).2 (lt_r kBody_valueOf) (lt_b kBody_valueOf) pc_Body_valueOf (pc_Body_valueOf b) (cd_Body_valueOf b) = true
  intro b
  match b with
  | 0 => exact fit_Body_valueOf_0
  | 1 => exact fit_Body_valueOf_1
  | 2 => exact fit_Body_valueOf_2
  | 3 => exact fit_Body_valueOf_3
  | 4 => exact fit_Body_valueOf_4
  | 5 => exact fit_Body_valueOf_5
  | n + 6 => rfl
theorem fitM_Body_kindOf : sm_FitM kBody_kindOf := by
  show ∀ b, sm_fit (lt_R kBody_kindOf) (lt_n kBody_kindOf) (lt_fl kBody_kindOf).1 (lt_fl kBody_kindOf).2 (lt_r kBody_kindOf) (lt_b kBody_kindOf) pc_Body_kindOf (pc_Body_kindOf b) (cd_Body_kindOf b) = true
  intro b
  match b with
  | 0 => exact fit_Body_kindOf_0
  | 1 => exact fit_Body_kindOf_1
  | 2 => exact fit_Body_kindOf_2
  | 3 => exact fit_Body_kindOf_3
  | 4 => exact fit_Body_kindOf_4
  | n + 5 => rfl
theorem fitM_Body_hasNothing : sm_FitM kBody_hasNothing := by
  show ∀ b, sm_fit (lt_R kBody_hasNothing) (lt_n kBody_hasNothing) (lt_fl kBody_hasNothing).1 (lt_fl kBody_hasNothing).2 (lt_r kBody_hasNothing) (lt_b kBody_hasNothing) pc_Body_hasNothing (pc_Body_hasNothing b) (cd_Body_hasNothing b) = true
  intro b
  match b with
  | 0 => exact fit_Body_hasNothing_0
  | 1 => exact fit_Body_hasNothing_1
  | 2 => exact fit_Body_hasNothing_2
  | 3 => exact fit_Body_hasNothing_3
  | n + 4 => rfl
theorem fitM_Body_owns : sm_FitM kBody_owns := by
  show ∀ b, sm_fit (lt_R kBody_owns) (lt_n kBody_owns) (lt_fl kBody_owns).1 (lt_fl kBody_owns).2 (lt_r kBody_owns) (lt_b kBody_owns) pc_Body_owns (pc_Body_owns b) (cd_Body_owns b) = true
  intro b
  match b with
  | 0 => exact fit_Body_owns_0
  | 1 => exact fit_Body_owns_1
  | 2 => exact fit_Body_owns_2
  | 3 => exact fit_Body_owns_3
  | 4 => exact fit_Body_owns_4
  | 5 => exact fit_Body_owns_5
  | n + 6 => rfl
theorem fitM_Body_ownsLinear : sm_FitM kBody_ownsLinear := by
  show ∀ b, sm_fit (lt_R kBody_ownsLinear) (lt_n kBody_ownsLinear) (lt_fl kBody_ownsLinear).1 (lt_fl kBody_ownsLinear).2 (lt_r kBody_ownsLinear) (lt_b kBody_ownsLinear) pc_Body_ownsLinear (pc_Body_ownsLinear b) (cd_Body_ownsLinear b) = true
  intro b
  match b with
  | 0 => exact fit_Body_ownsLinear_0
  | 1 => exact fit_Body_ownsLinear_1
  | 2 => exact fit_Body_ownsLinear_2
  | 3 => exact fit_Body_ownsLinear_3
  | 4 => exact fit_Body_ownsLinear_4
  | n + 5 => rfl
theorem fitM_Body_shares : sm_FitM kBody_shares := by
  show ∀ b, sm_fit (lt_R kBody_shares) (lt_n kBody_shares) (lt_fl kBody_shares).1 (lt_fl kBody_shares).2 (lt_r kBody_shares) (lt_b kBody_shares) pc_Body_shares (pc_Body_shares b) (cd_Body_shares b) = true
  intro b
  match b with
  | 0 => exact fit_Body_shares_0
  | 1 => exact fit_Body_shares_1
  | 2 => exact fit_Body_shares_2
  | 3 => exact fit_Body_shares_3
  | 4 => exact fit_Body_shares_4
  | 5 => exact fit_Body_shares_5
  | n + 6 => rfl
theorem fitM_Body_borrows : sm_FitM kBody_borrows := by
  show ∀ b, sm_fit (lt_R kBody_borrows) (lt_n kBody_borrows) (lt_fl kBody_borrows).1 (lt_fl kBody_borrows).2 (lt_r kBody_borrows) (lt_b kBody_borrows) pc_Body_borrows (pc_Body_borrows b) (cd_Body_borrows b) = true
  intro b
  match b with
  | 0 => exact fit_Body_borrows_0
  | 1 => exact fit_Body_borrows_1
  | 2 => exact fit_Body_borrows_2
  | 3 => exact fit_Body_borrows_3
  | 4 => exact fit_Body_borrows_4
  | 5 => exact fit_Body_borrows_5
  | n + 6 => rfl
theorem fitM_Body_isLapsed : sm_FitM kBody_isLapsed := by
  show ∀ b, sm_fit (lt_R kBody_isLapsed) (lt_n kBody_isLapsed) (lt_fl kBody_isLapsed).1 (lt_fl kBody_isLapsed).2 (lt_r kBody_isLapsed) (lt_b kBody_isLapsed) pc_Body_isLapsed (pc_Body_isLapsed b) (cd_Body_isLapsed b) = true
  intro b
  match b with
  | 0 => exact fit_Body_isLapsed_0
  | 1 => exact fit_Body_isLapsed_1
  | 2 => exact fit_Body_isLapsed_2
  | 3 => exact fit_Body_isLapsed_3
  | 4 => exact fit_Body_isLapsed_4
  | 5 => exact fit_Body_isLapsed_5
  | n + 6 => rfl
theorem fitM_Body_own : sm_FitM kBody_own := by
  show ∀ b, sm_fit (lt_R kBody_own) (lt_n kBody_own) (lt_fl kBody_own).1 (lt_fl kBody_own).2 (lt_r kBody_own) (lt_b kBody_own) pc_Body_own (pc_Body_own b) (cd_Body_own b) = true
  intro b
  match b with
  | 0 => exact fit_Body_own_0
  | 1 => exact fit_Body_own_1
  | 2 => exact fit_Body_own_2
  | n + 3 => rfl
theorem fitM_Body_move : sm_FitM kBody_move := by
  show ∀ b, sm_fit (lt_R kBody_move) (lt_n kBody_move) (lt_fl kBody_move).1 (lt_fl kBody_move).2 (lt_r kBody_move) (lt_b kBody_move) pc_Body_move (pc_Body_move b) (cd_Body_move b) = true
  intro b
  match b with
  | 0 => exact fit_Body_move_0
  | 1 => exact fit_Body_move_1
  | 2 => exact fit_Body_move_2
  | 3 => exact fit_Body_move_3
  | 4 => exact fit_Body_move_4
  | 5 => exact fit_Body_move_5
  | 6 => exact fit_Body_move_6
  | 7 => exact fit_Body_move_7
  | 8 => exact fit_Body_move_8
  | 9 => exact fit_Body_move_9
  | n + 10 => rfl
theorem fitM_Body_handOver : sm_FitM kBody_handOver := by
  show ∀ b, sm_fit (lt_R kBody_handOver) (lt_n kBody_handOver) (lt_fl kBody_handOver).1 (lt_fl kBody_handOver).2 (lt_r kBody_handOver) (lt_b kBody_handOver) pc_Body_handOver (pc_Body_handOver b) (cd_Body_handOver b) = true
  intro b
  match b with
  | 0 => exact fit_Body_handOver_0
  | 1 => exact fit_Body_handOver_1
  | 2 => exact fit_Body_handOver_2
  | n + 3 => rfl
theorem fitM_Body_free : sm_FitM kBody_free := by
  show ∀ b, sm_fit (lt_R kBody_free) (lt_n kBody_free) (lt_fl kBody_free).1 (lt_fl kBody_free).2 (lt_r kBody_free) (lt_b kBody_free) pc_Body_free (pc_Body_free b) (cd_Body_free b) = true
  intro b
  match b with
  | 0 => exact fit_Body_free_0
  | n + 1 => rfl
theorem fitM_Body_read : sm_FitM kBody_read := by
  show ∀ b, sm_fit (lt_R kBody_read) (lt_n kBody_read) (lt_fl kBody_read).1 (lt_fl kBody_read).2 (lt_r kBody_read) (lt_b kBody_read) pc_Body_read (pc_Body_read b) (cd_Body_read b) = true
  intro b
  match b with
  | 0 => exact fit_Body_read_0
  | n + 1 => rfl
theorem fitM_Body_write : sm_FitM kBody_write := by
  show ∀ b, sm_fit (lt_R kBody_write) (lt_n kBody_write) (lt_fl kBody_write).1 (lt_fl kBody_write).2 (lt_r kBody_write) (lt_b kBody_write) pc_Body_write (pc_Body_write b) (cd_Body_write b) = true
  intro b
  match b with
  | 0 => exact fit_Body_write_0
  | n + 1 => rfl
theorem fitM_Body_share : sm_FitM kBody_share := by
  show ∀ b, sm_fit (lt_R kBody_share) (lt_n kBody_share) (lt_fl kBody_share).1 (lt_fl kBody_share).2 (lt_r kBody_share) (lt_b kBody_share) pc_Body_share (pc_Body_share b) (cd_Body_share b) = true
  intro b
  match b with
  | 0 => exact fit_Body_share_0
  | 1 => exact fit_Body_share_1
  | 2 => exact fit_Body_share_2
  | n + 3 => rfl
theorem fitM_Body_lend : sm_FitM kBody_lend := by
  show ∀ b, sm_fit (lt_R kBody_lend) (lt_n kBody_lend) (lt_fl kBody_lend).1 (lt_fl kBody_lend).2 (lt_r kBody_lend) (lt_b kBody_lend) pc_Body_lend (pc_Body_lend b) (cd_Body_lend b) = true
  intro b
  match b with
  | 0 => exact fit_Body_lend_0
  | n + 1 => rfl
theorem fitM_Body_borrow : sm_FitM kBody_borrow := by
  show ∀ b, sm_fit (lt_R kBody_borrow) (lt_n kBody_borrow) (lt_fl kBody_borrow).1 (lt_fl kBody_borrow).2 (lt_r kBody_borrow) (lt_b kBody_borrow) pc_Body_borrow (pc_Body_borrow b) (cd_Body_borrow b) = true
  intro b
  match b with
  | 0 => exact fit_Body_borrow_0
  | 1 => exact fit_Body_borrow_1
  | 2 => exact fit_Body_borrow_2
  | 3 => exact fit_Body_borrow_3
  | 4 => exact fit_Body_borrow_4
  | 5 => exact fit_Body_borrow_5
  | 6 => exact fit_Body_borrow_6
  | n + 7 => rfl
theorem fitM_Body_vacate : sm_FitM kBody_vacate := by
  show ∀ b, sm_fit (lt_R kBody_vacate) (lt_n kBody_vacate) (lt_fl kBody_vacate).1 (lt_fl kBody_vacate).2 (lt_r kBody_vacate) (lt_b kBody_vacate) pc_Body_vacate (pc_Body_vacate b) (cd_Body_vacate b) = true
  intro b
  match b with
  | 0 => exact fit_Body_vacate_0
  | 1 => exact fit_Body_vacate_1
  | 2 => exact fit_Body_vacate_2
  | 3 => exact fit_Body_vacate_3
  | n + 4 => rfl
theorem fitM_Body_clear : sm_FitM kBody_clear := by
  show ∀ b, sm_fit (lt_R kBody_clear) (lt_n kBody_clear) (lt_fl kBody_clear).1 (lt_fl kBody_clear).2 (lt_r kBody_clear) (lt_b kBody_clear) pc_Body_clear (pc_Body_clear b) (cd_Body_clear b) = true
  intro b
  match b with
  | 0 => exact fit_Body_clear_0
  | 1 => exact fit_Body_clear_1
  | 2 => exact fit_Body_clear_2
  | 3 => exact fit_Body_clear_3
  | n + 4 => rfl
theorem fitM_Body_endAll : sm_FitM kBody_endAll := by
  show ∀ b, sm_fit (lt_R kBody_endAll) (lt_n kBody_endAll) (lt_fl kBody_endAll).1 (lt_fl kBody_endAll).2 (lt_r kBody_endAll) (lt_b kBody_endAll) pc_Body_endAll (pc_Body_endAll b) (cd_Body_endAll b) = true
  intro b
  match b with
  | 0 => exact fit_Body_endAll_0
  | n + 1 => rfl
theorem fitM_Body_endShares : sm_FitM kBody_endShares := by
  show ∀ b, sm_fit (lt_R kBody_endShares) (lt_n kBody_endShares) (lt_fl kBody_endShares).1 (lt_fl kBody_endShares).2 (lt_r kBody_endShares) (lt_b kBody_endShares) pc_Body_endShares (pc_Body_endShares b) (cd_Body_endShares b) = true
  intro b
  match b with
  | 0 => exact fit_Body_endShares_0
  | 1 => exact fit_Body_endShares_1
  | 2 => exact fit_Body_endShares_2
  | 3 => exact fit_Body_endShares_3
  | 4 => exact fit_Body_endShares_4
  | 5 => exact fit_Body_endShares_5
  | 6 => exact fit_Body_endShares_6
  | n + 7 => rfl
theorem fitM_Body_endLoans : sm_FitM kBody_endLoans := by
  show ∀ b, sm_fit (lt_R kBody_endLoans) (lt_n kBody_endLoans) (lt_fl kBody_endLoans).1 (lt_fl kBody_endLoans).2 (lt_r kBody_endLoans) (lt_b kBody_endLoans) pc_Body_endLoans (pc_Body_endLoans b) (cd_Body_endLoans b) = true
  intro b
  match b with
  | 0 => exact fit_Body_endLoans_0
  | 1 => exact fit_Body_endLoans_1
  | 2 => exact fit_Body_endLoans_2
  | 3 => exact fit_Body_endLoans_3
  | 4 => exact fit_Body_endLoans_4
  | 5 => exact fit_Body_endLoans_5
  | 6 => exact fit_Body_endLoans_6
  | 7 => exact fit_Body_endLoans_7
  | n + 8 => rfl
theorem fitM_Body_die : sm_FitM kBody_die := by
  show ∀ b, sm_fit (lt_R kBody_die) (lt_n kBody_die) (lt_fl kBody_die).1 (lt_fl kBody_die).2 (lt_r kBody_die) (lt_b kBody_die) pc_Body_die (pc_Body_die b) (cd_Body_die b) = true
  intro b
  match b with
  | 0 => exact fit_Body_die_0
  | n + 1 => rfl
theorem fitM_Body_finish : sm_FitM kBody_finish := by
  show ∀ b, sm_fit (lt_R kBody_finish) (lt_n kBody_finish) (lt_fl kBody_finish).1 (lt_fl kBody_finish).2 (lt_r kBody_finish) (lt_b kBody_finish) pc_Body_finish (pc_Body_finish b) (cd_Body_finish b) = true
  intro b
  match b with
  | 0 => exact fit_Body_finish_0
  | n + 1 => rfl
theorem fitM_Body_dropOwned : sm_FitM kBody_dropOwned := by
  show ∀ b, sm_fit (lt_R kBody_dropOwned) (lt_n kBody_dropOwned) (lt_fl kBody_dropOwned).1 (lt_fl kBody_dropOwned).2 (lt_r kBody_dropOwned) (lt_b kBody_dropOwned) pc_Body_dropOwned (pc_Body_dropOwned b) (cd_Body_dropOwned b) = true
  intro b
  match b with
  | 0 => exact fit_Body_dropOwned_0
  | 1 => exact fit_Body_dropOwned_1
  | 2 => exact fit_Body_dropOwned_2
  | 3 => exact fit_Body_dropOwned_3
  | 4 => exact fit_Body_dropOwned_4
  | 5 => exact fit_Body_dropOwned_5
  | n + 6 => rfl
theorem fitM_Body_latestOwner : sm_FitM kBody_latestOwner := by
  show ∀ b, sm_fit (lt_R kBody_latestOwner) (lt_n kBody_latestOwner) (lt_fl kBody_latestOwner).1 (lt_fl kBody_latestOwner).2 (lt_r kBody_latestOwner) (lt_b kBody_latestOwner) pc_Body_latestOwner (pc_Body_latestOwner b) (cd_Body_latestOwner b) = true
  intro b
  match b with
  | 0 => exact fit_Body_latestOwner_0
  | 1 => exact fit_Body_latestOwner_1
  | 2 => exact fit_Body_latestOwner_2
  | 3 => exact fit_Body_latestOwner_3
  | 4 => exact fit_Body_latestOwner_4
  | 5 => exact fit_Body_latestOwner_5
  | 6 => exact fit_Body_latestOwner_6
  | 7 => exact fit_Body_latestOwner_7
  | 8 => exact fit_Body_latestOwner_8
  | 9 => exact fit_Body_latestOwner_9
  | 10 => exact fit_Body_latestOwner_10
  | 11 => exact fit_Body_latestOwner_11
  | 12 => exact fit_Body_latestOwner_12
  | n + 13 => rfl
theorem fitM_Channels_size : sm_FitM kChannels_size := by
  show ∀ b, sm_fit (lt_R kChannels_size) (lt_n kChannels_size) (lt_fl kChannels_size).1 (lt_fl kChannels_size).2 (lt_r kChannels_size) (lt_b kChannels_size) pc_Channels_size (pc_Channels_size b) (cd_Channels_size b) = true
  intro b
  match b with
  | 0 => exact fit_Channels_size_0
  | n + 1 => rfl
theorem fitM_Channels_isFull : sm_FitM kChannels_isFull := by
  show ∀ b, sm_fit (lt_R kChannels_isFull) (lt_n kChannels_isFull) (lt_fl kChannels_isFull).1 (lt_fl kChannels_isFull).2 (lt_r kChannels_isFull) (lt_b kChannels_isFull) pc_Channels_isFull (pc_Channels_isFull b) (cd_Channels_isFull b) = true
  intro b
  match b with
  | 0 => exact fit_Channels_isFull_0
  | 1 => exact fit_Channels_isFull_1
  | 2 => exact fit_Channels_isFull_2
  | 3 => exact fit_Channels_isFull_3
  | n + 4 => rfl
theorem fitM_Channels_have : sm_FitM kChannels_have := by
  show ∀ b, sm_fit (lt_R kChannels_have) (lt_n kChannels_have) (lt_fl kChannels_have).1 (lt_fl kChannels_have).2 (lt_r kChannels_have) (lt_b kChannels_have) pc_Channels_have (pc_Channels_have b) (cd_Channels_have b) = true
  intro b
  match b with
  | 0 => exact fit_Channels_have_0
  | 1 => exact fit_Channels_have_1
  | 2 => exact fit_Channels_have_2
  | 3 => exact fit_Channels_have_3
  | 4 => exact fit_Channels_have_4
  | 5 => exact fit_Channels_have_5
  | n + 6 => rfl
theorem fitM_Channels_add : sm_FitM kChannels_add := by
  show ∀ b, sm_fit (lt_R kChannels_add) (lt_n kChannels_add) (lt_fl kChannels_add).1 (lt_fl kChannels_add).2 (lt_r kChannels_add) (lt_b kChannels_add) pc_Channels_add (pc_Channels_add b) (cd_Channels_add b) = true
  intro b
  match b with
  | 0 => exact fit_Channels_add_0
  | 1 => exact fit_Channels_add_1
  | 2 => exact fit_Channels_add_2
  | 3 => exact fit_Channels_add_3
  | 4 => exact fit_Channels_add_4
  | 5 => exact fit_Channels_add_5
  | 6 => exact fit_Channels_add_6
  | 7 => exact fit_Channels_add_7
  | 8 => exact fit_Channels_add_8
  | n + 9 => rfl
theorem fitM_Channels_turned : sm_FitM kChannels_turned := by
  show ∀ b, sm_fit (lt_R kChannels_turned) (lt_n kChannels_turned) (lt_fl kChannels_turned).1 (lt_fl kChannels_turned).2 (lt_r kChannels_turned) (lt_b kChannels_turned) pc_Channels_turned (pc_Channels_turned b) (cd_Channels_turned b) = true
  intro b
  match b with
  | 0 => exact fit_Channels_turned_0
  | 1 => exact fit_Channels_turned_1
  | 2 => exact fit_Channels_turned_2
  | 3 => exact fit_Channels_turned_3
  | 4 => exact fit_Channels_turned_4
  | 5 => exact fit_Channels_turned_5
  | n + 6 => rfl
theorem fitM_Channels_sideOf : sm_FitM kChannels_sideOf := by
  show ∀ b, sm_fit (lt_R kChannels_sideOf) (lt_n kChannels_sideOf) (lt_fl kChannels_sideOf).1 (lt_fl kChannels_sideOf).2 (lt_r kChannels_sideOf) (lt_b kChannels_sideOf) pc_Channels_sideOf (pc_Channels_sideOf b) (cd_Channels_sideOf b) = true
  intro b
  match b with
  | 0 => exact fit_Channels_sideOf_0
  | 1 => exact fit_Channels_sideOf_1
  | 2 => exact fit_Channels_sideOf_2
  | 3 => exact fit_Channels_sideOf_3
  | 4 => exact fit_Channels_sideOf_4
  | 5 => exact fit_Channels_sideOf_5
  | 6 => exact fit_Channels_sideOf_6
  | 7 => exact fit_Channels_sideOf_7
  | 8 => exact fit_Channels_sideOf_8
  | n + 9 => rfl
theorem fitM_Channels_beyond : sm_FitM kChannels_beyond := by
  show ∀ b, sm_fit (lt_R kChannels_beyond) (lt_n kChannels_beyond) (lt_fl kChannels_beyond).1 (lt_fl kChannels_beyond).2 (lt_r kChannels_beyond) (lt_b kChannels_beyond) pc_Channels_beyond (pc_Channels_beyond b) (cd_Channels_beyond b) = true
  intro b
  match b with
  | 0 => exact fit_Channels_beyond_0
  | 1 => exact fit_Channels_beyond_1
  | 2 => exact fit_Channels_beyond_2
  | 3 => exact fit_Channels_beyond_3
  | 4 => exact fit_Channels_beyond_4
  | 5 => exact fit_Channels_beyond_5
  | n + 6 => rfl
theorem fitM_Channels_askedOf : sm_FitM kChannels_askedOf := by
  show ∀ b, sm_fit (lt_R kChannels_askedOf) (lt_n kChannels_askedOf) (lt_fl kChannels_askedOf).1 (lt_fl kChannels_askedOf).2 (lt_r kChannels_askedOf) (lt_b kChannels_askedOf) pc_Channels_askedOf (pc_Channels_askedOf b) (cd_Channels_askedOf b) = true
  intro b
  match b with
  | 0 => exact fit_Channels_askedOf_0
  | 1 => exact fit_Channels_askedOf_1
  | 2 => exact fit_Channels_askedOf_2
  | 3 => exact fit_Channels_askedOf_3
  | 4 => exact fit_Channels_askedOf_4
  | 5 => exact fit_Channels_askedOf_5
  | 6 => exact fit_Channels_askedOf_6
  | 7 => exact fit_Channels_askedOf_7
  | 8 => exact fit_Channels_askedOf_8
  | 9 => exact fit_Channels_askedOf_9
  | 10 => exact fit_Channels_askedOf_10
  | 11 => exact fit_Channels_askedOf_11
  | n + 12 => rfl
theorem fitM_Channels_suit : sm_FitM kChannels_suit := by
  show ∀ b, sm_fit (lt_R kChannels_suit) (lt_n kChannels_suit) (lt_fl kChannels_suit).1 (lt_fl kChannels_suit).2 (lt_r kChannels_suit) (lt_b kChannels_suit) pc_Channels_suit (pc_Channels_suit b) (cd_Channels_suit b) = true
  intro b
  match b with
  | 0 => exact fit_Channels_suit_0
  | 1 => exact fit_Channels_suit_1
  | 2 => exact fit_Channels_suit_2
  | 3 => exact fit_Channels_suit_3
  | 4 => exact fit_Channels_suit_4
  | n + 5 => rfl
theorem fitM_Channels_kindAt : sm_FitM kChannels_kindAt := by
  show ∀ b, sm_fit (lt_R kChannels_kindAt) (lt_n kChannels_kindAt) (lt_fl kChannels_kindAt).1 (lt_fl kChannels_kindAt).2 (lt_r kChannels_kindAt) (lt_b kChannels_kindAt) pc_Channels_kindAt (pc_Channels_kindAt b) (cd_Channels_kindAt b) = true
  intro b
  match b with
  | 0 => exact fit_Channels_kindAt_0
  | 1 => exact fit_Channels_kindAt_1
  | 2 => exact fit_Channels_kindAt_2
  | 3 => exact fit_Channels_kindAt_3
  | 4 => exact fit_Channels_kindAt_4
  | 5 => exact fit_Channels_kindAt_5
  | 6 => exact fit_Channels_kindAt_6
  | n + 7 => rfl
theorem fitM_Channels_nextAt : sm_FitM kChannels_nextAt := by
  show ∀ b, sm_fit (lt_R kChannels_nextAt) (lt_n kChannels_nextAt) (lt_fl kChannels_nextAt).1 (lt_fl kChannels_nextAt).2 (lt_r kChannels_nextAt) (lt_b kChannels_nextAt) pc_Channels_nextAt (pc_Channels_nextAt b) (cd_Channels_nextAt b) = true
  intro b
  match b with
  | 0 => exact fit_Channels_nextAt_0
  | 1 => exact fit_Channels_nextAt_1
  | 2 => exact fit_Channels_nextAt_2
  | 3 => exact fit_Channels_nextAt_3
  | 4 => exact fit_Channels_nextAt_4
  | 5 => exact fit_Channels_nextAt_5
  | 6 => exact fit_Channels_nextAt_6
  | 7 => exact fit_Channels_nextAt_7
  | 8 => exact fit_Channels_nextAt_8
  | 9 => exact fit_Channels_nextAt_9
  | 10 => exact fit_Channels_nextAt_10
  | 11 => exact fit_Channels_nextAt_11
  | n + 12 => rfl
theorem fitM_Code_allows : sm_FitM kCode_allows := by
  show ∀ b, sm_fit (lt_R kCode_allows) (lt_n kCode_allows) (lt_fl kCode_allows).1 (lt_fl kCode_allows).2 (lt_r kCode_allows) (lt_b kCode_allows) pc_Code_allows (pc_Code_allows b) (cd_Code_allows b) = true
  intro b
  match b with
  | 0 => exact fit_Code_allows_0
  | 1 => exact fit_Code_allows_1
  | 2 => exact fit_Code_allows_2
  | 3 => exact fit_Code_allows_3
  | 4 => exact fit_Code_allows_4
  | 5 => exact fit_Code_allows_5
  | 6 => exact fit_Code_allows_6
  | 7 => exact fit_Code_allows_7
  | 8 => exact fit_Code_allows_8
  | 9 => exact fit_Code_allows_9
  | 10 => exact fit_Code_allows_10
  | 11 => exact fit_Code_allows_11
  | 12 => exact fit_Code_allows_12
  | 13 => exact fit_Code_allows_13
  | 14 => exact fit_Code_allows_14
  | 15 => exact fit_Code_allows_15
  | 16 => exact fit_Code_allows_16
  | 17 => exact fit_Code_allows_17
  | 18 => exact fit_Code_allows_18
  | 19 => exact fit_Code_allows_19
  | 20 => exact fit_Code_allows_20
  | 21 => exact fit_Code_allows_21
  | 22 => exact fit_Code_allows_22
  | 23 => exact fit_Code_allows_23
  | 24 => exact fit_Code_allows_24
  | 25 => exact fit_Code_allows_25
  | 26 => exact fit_Code_allows_26
  | 27 => exact fit_Code_allows_27
  | 28 => exact fit_Code_allows_28
  | 29 => exact fit_Code_allows_29
  | 30 => exact fit_Code_allows_30
  | 31 => exact fit_Code_allows_31
  | 32 => exact fit_Code_allows_32
  | 33 => exact fit_Code_allows_33
  | 34 => exact fit_Code_allows_34
  | 35 => exact fit_Code_allows_35
  | 36 => exact fit_Code_allows_36
  | 37 => exact fit_Code_allows_37
  | n + 38 => rfl
theorem fitM_Code_stepNeeded : sm_FitM kCode_stepNeeded := by
  show ∀ b, sm_fit (lt_R kCode_stepNeeded) (lt_n kCode_stepNeeded) (lt_fl kCode_stepNeeded).1 (lt_fl kCode_stepNeeded).2 (lt_r kCode_stepNeeded) (lt_b kCode_stepNeeded) pc_Code_stepNeeded (pc_Code_stepNeeded b) (cd_Code_stepNeeded b) = true
  intro b
  match b with
  | 0 => exact fit_Code_stepNeeded_0
  | 1 => exact fit_Code_stepNeeded_1
  | 2 => exact fit_Code_stepNeeded_2
  | 3 => exact fit_Code_stepNeeded_3
  | 4 => exact fit_Code_stepNeeded_4
  | 5 => exact fit_Code_stepNeeded_5
  | n + 6 => rfl
theorem fitM_Code_wrongWay : sm_FitM kCode_wrongWay := by
  show ∀ b, sm_fit (lt_R kCode_wrongWay) (lt_n kCode_wrongWay) (lt_fl kCode_wrongWay).1 (lt_fl kCode_wrongWay).2 (lt_r kCode_wrongWay) (lt_b kCode_wrongWay) pc_Code_wrongWay (pc_Code_wrongWay b) (cd_Code_wrongWay b) = true
  intro b
  match b with
  | 0 => exact fit_Code_wrongWay_0
  | 1 => exact fit_Code_wrongWay_1
  | 2 => exact fit_Code_wrongWay_2
  | 3 => exact fit_Code_wrongWay_3
  | 4 => exact fit_Code_wrongWay_4
  | 5 => exact fit_Code_wrongWay_5
  | 6 => exact fit_Code_wrongWay_6
  | 7 => exact fit_Code_wrongWay_7
  | 8 => exact fit_Code_wrongWay_8
  | n + 9 => rfl
theorem fitM_Code_size : sm_FitM kCode_size := by
  show ∀ b, sm_fit (lt_R kCode_size) (lt_n kCode_size) (lt_fl kCode_size).1 (lt_fl kCode_size).2 (lt_r kCode_size) (lt_b kCode_size) pc_Code_size (pc_Code_size b) (cd_Code_size b) = true
  intro b
  match b with
  | 0 => exact fit_Code_size_0
  | n + 1 => rfl
theorem fitM_Code_isFull : sm_FitM kCode_isFull := by
  show ∀ b, sm_fit (lt_R kCode_isFull) (lt_n kCode_isFull) (lt_fl kCode_isFull).1 (lt_fl kCode_isFull).2 (lt_r kCode_isFull) (lt_b kCode_isFull) pc_Code_isFull (pc_Code_isFull b) (cd_Code_isFull b) = true
  intro b
  match b with
  | 0 => exact fit_Code_isFull_0
  | 1 => exact fit_Code_isFull_1
  | 2 => exact fit_Code_isFull_2
  | 3 => exact fit_Code_isFull_3
  | n + 4 => rfl
theorem fitM_Code_add : sm_FitM kCode_add := by
  show ∀ b, sm_fit (lt_R kCode_add) (lt_n kCode_add) (lt_fl kCode_add).1 (lt_fl kCode_add).2 (lt_r kCode_add) (lt_b kCode_add) pc_Code_add (pc_Code_add b) (cd_Code_add b) = true
  intro b
  match b with
  | 0 => exact fit_Code_add_0
  | 1 => exact fit_Code_add_1
  | 2 => exact fit_Code_add_2
  | n + 3 => rfl
theorem fitM_Code_removeLast : sm_FitM kCode_removeLast := by
  show ∀ b, sm_fit (lt_R kCode_removeLast) (lt_n kCode_removeLast) (lt_fl kCode_removeLast).1 (lt_fl kCode_removeLast).2 (lt_r kCode_removeLast) (lt_b kCode_removeLast) pc_Code_removeLast (pc_Code_removeLast b) (cd_Code_removeLast b) = true
  intro b
  match b with
  | 0 => exact fit_Code_removeLast_0
  | 1 => exact fit_Code_removeLast_1
  | 2 => exact fit_Code_removeLast_2
  | n + 3 => rfl
theorem fitM_Code_whatAt : sm_FitM kCode_whatAt := by
  show ∀ b, sm_fit (lt_R kCode_whatAt) (lt_n kCode_whatAt) (lt_fl kCode_whatAt).1 (lt_fl kCode_whatAt).2 (lt_r kCode_whatAt) (lt_b kCode_whatAt) pc_Code_whatAt (pc_Code_whatAt b) (cd_Code_whatAt b) = true
  intro b
  match b with
  | 0 => exact fit_Code_whatAt_0
  | 1 => exact fit_Code_whatAt_1
  | 2 => exact fit_Code_whatAt_2
  | 3 => exact fit_Code_whatAt_3
  | 4 => exact fit_Code_whatAt_4
  | n + 5 => rfl
theorem fitM_Code_aAt : sm_FitM kCode_aAt := by
  show ∀ b, sm_fit (lt_R kCode_aAt) (lt_n kCode_aAt) (lt_fl kCode_aAt).1 (lt_fl kCode_aAt).2 (lt_r kCode_aAt) (lt_b kCode_aAt) pc_Code_aAt (pc_Code_aAt b) (cd_Code_aAt b) = true
  intro b
  match b with
  | 0 => exact fit_Code_aAt_0
  | 1 => exact fit_Code_aAt_1
  | 2 => exact fit_Code_aAt_2
  | 3 => exact fit_Code_aAt_3
  | 4 => exact fit_Code_aAt_4
  | n + 5 => rfl
theorem fitM_Code_bAt : sm_FitM kCode_bAt := by
  show ∀ b, sm_fit (lt_R kCode_bAt) (lt_n kCode_bAt) (lt_fl kCode_bAt).1 (lt_fl kCode_bAt).2 (lt_r kCode_bAt) (lt_b kCode_bAt) pc_Code_bAt (pc_Code_bAt b) (cd_Code_bAt b) = true
  intro b
  match b with
  | 0 => exact fit_Code_bAt_0
  | 1 => exact fit_Code_bAt_1
  | 2 => exact fit_Code_bAt_2
  | 3 => exact fit_Code_bAt_3
  | 4 => exact fit_Code_bAt_4
  | n + 5 => rfl
theorem fitM_Code_targetAt : sm_FitM kCode_targetAt := by
  show ∀ b, sm_fit (lt_R kCode_targetAt) (lt_n kCode_targetAt) (lt_fl kCode_targetAt).1 (lt_fl kCode_targetAt).2 (lt_r kCode_targetAt) (lt_b kCode_targetAt) pc_Code_targetAt (pc_Code_targetAt b) (cd_Code_targetAt b) = true
  intro b
  match b with
  | 0 => exact fit_Code_targetAt_0
  | 1 => exact fit_Code_targetAt_1
  | 2 => exact fit_Code_targetAt_2
  | 3 => exact fit_Code_targetAt_3
  | n + 4 => rfl
theorem fitM_Code_usedAt : sm_FitM kCode_usedAt := by
  show ∀ b, sm_fit (lt_R kCode_usedAt) (lt_n kCode_usedAt) (lt_fl kCode_usedAt).1 (lt_fl kCode_usedAt).2 (lt_r kCode_usedAt) (lt_b kCode_usedAt) pc_Code_usedAt (pc_Code_usedAt b) (cd_Code_usedAt b) = true
  intro b
  match b with
  | 0 => exact fit_Code_usedAt_0
  | 1 => exact fit_Code_usedAt_1
  | 2 => exact fit_Code_usedAt_2
  | 3 => exact fit_Code_usedAt_3
  | n + 4 => rfl
theorem fitM_Code_channelAt : sm_FitM kCode_channelAt := by
  show ∀ b, sm_fit (lt_R kCode_channelAt) (lt_n kCode_channelAt) (lt_fl kCode_channelAt).1 (lt_fl kCode_channelAt).2 (lt_r kCode_channelAt) (lt_b kCode_channelAt) pc_Code_channelAt (pc_Code_channelAt b) (cd_Code_channelAt b) = true
  intro b
  match b with
  | 0 => exact fit_Code_channelAt_0
  | 1 => exact fit_Code_channelAt_1
  | 2 => exact fit_Code_channelAt_2
  | 3 => exact fit_Code_channelAt_3
  | n + 4 => rfl
theorem fitM_Code_after : sm_FitM kCode_after := by
  show ∀ b, sm_fit (lt_R kCode_after) (lt_n kCode_after) (lt_fl kCode_after).1 (lt_fl kCode_after).2 (lt_r kCode_after) (lt_b kCode_after) pc_Code_after (pc_Code_after b) (cd_Code_after b) = true
  intro b
  match b with
  | 0 => exact fit_Code_after_0
  | n + 1 => rfl
theorem fitM_Code_jumpOf : sm_FitM kCode_jumpOf := by
  show ∀ b, sm_fit (lt_R kCode_jumpOf) (lt_n kCode_jumpOf) (lt_fl kCode_jumpOf).1 (lt_fl kCode_jumpOf).2 (lt_r kCode_jumpOf) (lt_b kCode_jumpOf) pc_Code_jumpOf (pc_Code_jumpOf b) (cd_Code_jumpOf b) = true
  intro b
  match b with
  | 0 => exact fit_Code_jumpOf_0
  | 1 => exact fit_Code_jumpOf_1
  | 2 => exact fit_Code_jumpOf_2
  | 3 => exact fit_Code_jumpOf_3
  | 4 => exact fit_Code_jumpOf_4
  | n + 5 => rfl
theorem fitM_Course_isOn : sm_FitM kCourse_isOn := by
  show ∀ b, sm_fit (lt_R kCourse_isOn) (lt_n kCourse_isOn) (lt_fl kCourse_isOn).1 (lt_fl kCourse_isOn).2 (lt_r kCourse_isOn) (lt_b kCourse_isOn) pc_Course_isOn (pc_Course_isOn b) (cd_Course_isOn b) = true
  intro b
  match b with
  | 0 => exact fit_Course_isOn_0
  | n + 1 => rfl
theorem fitM_Course_stop : sm_FitM kCourse_stop := by
  show ∀ b, sm_fit (lt_R kCourse_stop) (lt_n kCourse_stop) (lt_fl kCourse_stop).1 (lt_fl kCourse_stop).2 (lt_r kCourse_stop) (lt_b kCourse_stop) pc_Course_stop (pc_Course_stop b) (cd_Course_stop b) = true
  intro b
  match b with
  | 0 => exact fit_Course_stop_0
  | n + 1 => rfl
theorem fitM_Course_restart : sm_FitM kCourse_restart := by
  show ∀ b, sm_fit (lt_R kCourse_restart) (lt_n kCourse_restart) (lt_fl kCourse_restart).1 (lt_fl kCourse_restart).2 (lt_r kCourse_restart) (lt_b kCourse_restart) pc_Course_restart (pc_Course_restart b) (cd_Course_restart b) = true
  intro b
  match b with
  | 0 => exact fit_Course_restart_0
  | 1 => exact fit_Course_restart_1
  | 2 => exact fit_Course_restart_2
  | 3 => exact fit_Course_restart_3
  | n + 4 => rfl
theorem fitM_Course_body : sm_FitM kCourse_body := by
  show ∀ b, sm_fit (lt_R kCourse_body) (lt_n kCourse_body) (lt_fl kCourse_body).1 (lt_fl kCourse_body).2 (lt_r kCourse_body) (lt_b kCourse_body) pc_Course_body (pc_Course_body b) (cd_Course_body b) = true
  intro b
  match b with
  | 0 => exact fit_Course_body_0
  | n + 1 => rfl
theorem fitM_Course_ledger : sm_FitM kCourse_ledger := by
  show ∀ b, sm_fit (lt_R kCourse_ledger) (lt_n kCourse_ledger) (lt_fl kCourse_ledger).1 (lt_fl kCourse_ledger).2 (lt_r kCourse_ledger) (lt_b kCourse_ledger) pc_Course_ledger (pc_Course_ledger b) (cd_Course_ledger b) = true
  intro b
  match b with
  | 0 => exact fit_Course_ledger_0
  | n + 1 => rfl
theorem fitM_Course_countFor : sm_FitM kCourse_countFor := by
  show ∀ b, sm_fit (lt_R kCourse_countFor) (lt_n kCourse_countFor) (lt_fl kCourse_countFor).1 (lt_fl kCourse_countFor).2 (lt_r kCourse_countFor) (lt_b kCourse_countFor) pc_Course_countFor (pc_Course_countFor b) (cd_Course_countFor b) = true
  intro b
  match b with
  | 0 => exact fit_Course_countFor_0
  | n + 1 => rfl
theorem fitM_Course_queueOf : sm_FitM kCourse_queueOf := by
  show ∀ b, sm_fit (lt_R kCourse_queueOf) (lt_n kCourse_queueOf) (lt_fl kCourse_queueOf).1 (lt_fl kCourse_queueOf).2 (lt_r kCourse_queueOf) (lt_b kCourse_queueOf) pc_Course_queueOf (pc_Course_queueOf b) (cd_Course_queueOf b) = true
  intro b
  match b with
  | 0 => exact fit_Course_queueOf_0
  | 1 => exact fit_Course_queueOf_1
  | 2 => exact fit_Course_queueOf_2
  | 3 => exact fit_Course_queueOf_3
  | n + 4 => rfl
theorem fitM_Course_draw : sm_FitM kCourse_draw := by
  show ∀ b, sm_fit (lt_R kCourse_draw) (lt_n kCourse_draw) (lt_fl kCourse_draw).1 (lt_fl kCourse_draw).2 (lt_r kCourse_draw) (lt_b kCourse_draw) pc_Course_draw (pc_Course_draw b) (cd_Course_draw b) = true
  intro b
  match b with
  | 0 => exact fit_Course_draw_0
  | 1 => exact fit_Course_draw_1
  | 2 => exact fit_Course_draw_2
  | 3 => exact fit_Course_draw_3
  | 4 => exact fit_Course_draw_4
  | 5 => exact fit_Course_draw_5
  | 6 => exact fit_Course_draw_6
  | 7 => exact fit_Course_draw_7
  | 8 => exact fit_Course_draw_8
  | n + 9 => rfl
theorem fitM_Course_countReady : sm_FitM kCourse_countReady := by
  show ∀ b, sm_fit (lt_R kCourse_countReady) (lt_n kCourse_countReady) (lt_fl kCourse_countReady).1 (lt_fl kCourse_countReady).2 (lt_r kCourse_countReady) (lt_b kCourse_countReady) pc_Course_countReady (pc_Course_countReady b) (cd_Course_countReady b) = true
  intro b
  match b with
  | 0 => exact fit_Course_countReady_0
  | 1 => exact fit_Course_countReady_1
  | 2 => exact fit_Course_countReady_2
  | 3 => exact fit_Course_countReady_3
  | 4 => exact fit_Course_countReady_4
  | 5 => exact fit_Course_countReady_5
  | 6 => exact fit_Course_countReady_6
  | n + 7 => rfl
theorem fitM_Course_readyAt : sm_FitM kCourse_readyAt := by
  show ∀ b, sm_fit (lt_R kCourse_readyAt) (lt_n kCourse_readyAt) (lt_fl kCourse_readyAt).1 (lt_fl kCourse_readyAt).2 (lt_r kCourse_readyAt) (lt_b kCourse_readyAt) pc_Course_readyAt (pc_Course_readyAt b) (cd_Course_readyAt b) = true
  intro b
  match b with
  | 0 => exact fit_Course_readyAt_0
  | 1 => exact fit_Course_readyAt_1
  | 2 => exact fit_Course_readyAt_2
  | 3 => exact fit_Course_readyAt_3
  | 4 => exact fit_Course_readyAt_4
  | 5 => exact fit_Course_readyAt_5
  | 6 => exact fit_Course_readyAt_6
  | 7 => exact fit_Course_readyAt_7
  | n + 8 => rfl
theorem fitM_Course_isReady : sm_FitM kCourse_isReady := by
  show ∀ b, sm_fit (lt_R kCourse_isReady) (lt_n kCourse_isReady) (lt_fl kCourse_isReady).1 (lt_fl kCourse_isReady).2 (lt_r kCourse_isReady) (lt_b kCourse_isReady) pc_Course_isReady (pc_Course_isReady b) (cd_Course_isReady b) = true
  intro b
  match b with
  | 0 => exact fit_Course_isReady_0
  | 1 => exact fit_Course_isReady_1
  | 2 => exact fit_Course_isReady_2
  | 3 => exact fit_Course_isReady_3
  | 4 => exact fit_Course_isReady_4
  | n + 5 => rfl
theorem fitM_Course_mustWait : sm_FitM kCourse_mustWait := by
  show ∀ b, sm_fit (lt_R kCourse_mustWait) (lt_n kCourse_mustWait) (lt_fl kCourse_mustWait).1 (lt_fl kCourse_mustWait).2 (lt_r kCourse_mustWait) (lt_b kCourse_mustWait) pc_Course_mustWait (pc_Course_mustWait b) (cd_Course_mustWait b) = true
  intro b
  match b with
  | 0 => exact fit_Course_mustWait_0
  | 1 => exact fit_Course_mustWait_1
  | 2 => exact fit_Course_mustWait_2
  | 3 => exact fit_Course_mustWait_3
  | 4 => exact fit_Course_mustWait_4
  | 5 => exact fit_Course_mustWait_5
  | 6 => exact fit_Course_mustWait_6
  | 7 => exact fit_Course_mustWait_7
  | 8 => exact fit_Course_mustWait_8
  | 9 => exact fit_Course_mustWait_9
  | 10 => exact fit_Course_mustWait_10
  | 11 => exact fit_Course_mustWait_11
  | 12 => exact fit_Course_mustWait_12
  | n + 13 => rfl
theorem fitM_Course_suits : sm_FitM kCourse_suits := by
  show ∀ b, sm_fit (lt_R kCourse_suits) (lt_n kCourse_suits) (lt_fl kCourse_suits).1 (lt_fl kCourse_suits).2 (lt_r kCourse_suits) (lt_b kCourse_suits) pc_Course_suits (pc_Course_suits b) (cd_Course_suits b) = true
  intro b
  match b with
  | 0 => exact fit_Course_suits_0
  | n + 1 => rfl
theorem fitM_Course_isBeyondDead : sm_FitM kCourse_isBeyondDead := by
  show ∀ b, sm_fit (lt_R kCourse_isBeyondDead) (lt_n kCourse_isBeyondDead) (lt_fl kCourse_isBeyondDead).1 (lt_fl kCourse_isBeyondDead).2 (lt_r kCourse_isBeyondDead) (lt_b kCourse_isBeyondDead) pc_Course_isBeyondDead (pc_Course_isBeyondDead b) (cd_Course_isBeyondDead b) = true
  intro b
  match b with
  | 0 => exact fit_Course_isBeyondDead_0
  | 1 => exact fit_Course_isBeyondDead_1
  | 2 => exact fit_Course_isBeyondDead_2
  | 3 => exact fit_Course_isBeyondDead_3
  | 4 => exact fit_Course_isBeyondDead_4
  | n + 5 => rfl
theorem fitM_Course_advance : sm_FitM kCourse_advance := by
  show ∀ b, sm_fit (lt_R kCourse_advance) (lt_n kCourse_advance) (lt_fl kCourse_advance).1 (lt_fl kCourse_advance).2 (lt_r kCourse_advance) (lt_b kCourse_advance) pc_Course_advance (pc_Course_advance b) (cd_Course_advance b) = true
  intro b
  match b with
  | 0 => exact fit_Course_advance_0
  | 1 => exact fit_Course_advance_1
  | 2 => exact fit_Course_advance_2
  | 3 => exact fit_Course_advance_3
  | 4 => exact fit_Course_advance_4
  | 5 => exact fit_Course_advance_5
  | 6 => exact fit_Course_advance_6
  | 7 => exact fit_Course_advance_7
  | 8 => exact fit_Course_advance_8
  | 9 => exact fit_Course_advance_9
  | 10 => exact fit_Course_advance_10
  | n + 11 => rfl
theorem fitM_Course_endFault : sm_FitM kCourse_endFault := by
  show ∀ b, sm_fit (lt_R kCourse_endFault) (lt_n kCourse_endFault) (lt_fl kCourse_endFault).1 (lt_fl kCourse_endFault).2 (lt_r kCourse_endFault) (lt_b kCourse_endFault) pc_Course_endFault (pc_Course_endFault b) (cd_Course_endFault b) = true
  intro b
  match b with
  | 0 => exact fit_Course_endFault_0
  | 1 => exact fit_Course_endFault_1
  | 2 => exact fit_Course_endFault_2
  | 3 => exact fit_Course_endFault_3
  | 4 => exact fit_Course_endFault_4
  | 5 => exact fit_Course_endFault_5
  | 6 => exact fit_Course_endFault_6
  | 7 => exact fit_Course_endFault_7
  | 8 => exact fit_Course_endFault_8
  | 9 => exact fit_Course_endFault_9
  | 10 => exact fit_Course_endFault_10
  | 11 => exact fit_Course_endFault_11
  | n + 12 => rfl
theorem fitM_Course_faultAt : sm_FitM kCourse_faultAt := by
  show ∀ b, sm_fit (lt_R kCourse_faultAt) (lt_n kCourse_faultAt) (lt_fl kCourse_faultAt).1 (lt_fl kCourse_faultAt).2 (lt_r kCourse_faultAt) (lt_b kCourse_faultAt) pc_Course_faultAt (pc_Course_faultAt b) (cd_Course_faultAt b) = true
  intro b
  match b with
  | 0 => exact fit_Course_faultAt_0
  | 1 => exact fit_Course_faultAt_1
  | 2 => exact fit_Course_faultAt_2
  | 3 => exact fit_Course_faultAt_3
  | 4 => exact fit_Course_faultAt_4
  | 5 => exact fit_Course_faultAt_5
  | 6 => exact fit_Course_faultAt_6
  | 7 => exact fit_Course_faultAt_7
  | 8 => exact fit_Course_faultAt_8
  | 9 => exact fit_Course_faultAt_9
  | 10 => exact fit_Course_faultAt_10
  | 11 => exact fit_Course_faultAt_11
  | 12 => exact fit_Course_faultAt_12
  | 13 => exact fit_Course_faultAt_13
  | 14 => exact fit_Course_faultAt_14
  | 15 => exact fit_Course_faultAt_15
  | 16 => exact fit_Course_faultAt_16
  | 17 => exact fit_Course_faultAt_17
  | 18 => exact fit_Course_faultAt_18
  | 19 => exact fit_Course_faultAt_19
  | 20 => exact fit_Course_faultAt_20
  | 21 => exact fit_Course_faultAt_21
  | 22 => exact fit_Course_faultAt_22
  | 23 => exact fit_Course_faultAt_23
  | n + 24 => rfl
theorem fitM_Course_kindAt : sm_FitM kCourse_kindAt := by
  show ∀ b, sm_fit (lt_R kCourse_kindAt) (lt_n kCourse_kindAt) (lt_fl kCourse_kindAt).1 (lt_fl kCourse_kindAt).2 (lt_r kCourse_kindAt) (lt_b kCourse_kindAt) pc_Course_kindAt (pc_Course_kindAt b) (cd_Course_kindAt b) = true
  intro b
  match b with
  | 0 => exact fit_Course_kindAt_0
  | n + 1 => rfl
theorem fitM_Course_messageFault : sm_FitM kCourse_messageFault := by
  show ∀ b, sm_fit (lt_R kCourse_messageFault) (lt_n kCourse_messageFault) (lt_fl kCourse_messageFault).1 (lt_fl kCourse_messageFault).2 (lt_r kCourse_messageFault) (lt_b kCourse_messageFault) pc_Course_messageFault (pc_Course_messageFault b) (cd_Course_messageFault b) = true
  intro b
  match b with
  | 0 => exact fit_Course_messageFault_0
  | 1 => exact fit_Course_messageFault_1
  | 2 => exact fit_Course_messageFault_2
  | 3 => exact fit_Course_messageFault_3
  | 4 => exact fit_Course_messageFault_4
  | 5 => exact fit_Course_messageFault_5
  | 6 => exact fit_Course_messageFault_6
  | 7 => exact fit_Course_messageFault_7
  | 8 => exact fit_Course_messageFault_8
  | 9 => exact fit_Course_messageFault_9
  | 10 => exact fit_Course_messageFault_10
  | 11 => exact fit_Course_messageFault_11
  | 12 => exact fit_Course_messageFault_12
  | 13 => exact fit_Course_messageFault_13
  | 14 => exact fit_Course_messageFault_14
  | 15 => exact fit_Course_messageFault_15
  | n + 16 => rfl
theorem fitM_Course_dropWaiting : sm_FitM kCourse_dropWaiting := by
  show ∀ b, sm_fit (lt_R kCourse_dropWaiting) (lt_n kCourse_dropWaiting) (lt_fl kCourse_dropWaiting).1 (lt_fl kCourse_dropWaiting).2 (lt_r kCourse_dropWaiting) (lt_b kCourse_dropWaiting) pc_Course_dropWaiting (pc_Course_dropWaiting b) (cd_Course_dropWaiting b) = true
  intro b
  match b with
  | 0 => exact fit_Course_dropWaiting_0
  | 1 => exact fit_Course_dropWaiting_1
  | 2 => exact fit_Course_dropWaiting_2
  | 3 => exact fit_Course_dropWaiting_3
  | 4 => exact fit_Course_dropWaiting_4
  | 5 => exact fit_Course_dropWaiting_5
  | 6 => exact fit_Course_dropWaiting_6
  | 7 => exact fit_Course_dropWaiting_7
  | 8 => exact fit_Course_dropWaiting_8
  | n + 9 => rfl
theorem fitM_Course_perform : sm_FitM kCourse_perform := by
  show ∀ b, sm_fit (lt_R kCourse_perform) (lt_n kCourse_perform) (lt_fl kCourse_perform).1 (lt_fl kCourse_perform).2 (lt_r kCourse_perform) (lt_b kCourse_perform) pc_Course_perform (pc_Course_perform b) (cd_Course_perform b) = true
  intro b
  match b with
  | 0 => exact fit_Course_perform_0
  | 1 => exact fit_Course_perform_1
  | 2 => exact fit_Course_perform_2
  | 3 => exact fit_Course_perform_3
  | 4 => exact fit_Course_perform_4
  | 5 => exact fit_Course_perform_5
  | 6 => exact fit_Course_perform_6
  | 7 => exact fit_Course_perform_7
  | 8 => exact fit_Course_perform_8
  | 9 => exact fit_Course_perform_9
  | 10 => exact fit_Course_perform_10
  | 11 => exact fit_Course_perform_11
  | 12 => exact fit_Course_perform_12
  | 13 => exact fit_Course_perform_13
  | 14 => exact fit_Course_perform_14
  | 15 => exact fit_Course_perform_15
  | 16 => exact fit_Course_perform_16
  | 17 => exact fit_Course_perform_17
  | 18 => exact fit_Course_perform_18
  | 19 => exact fit_Course_perform_19
  | 20 => exact fit_Course_perform_20
  | 21 => exact fit_Course_perform_21
  | 22 => exact fit_Course_perform_22
  | 23 => exact fit_Course_perform_23
  | n + 24 => rfl
theorem fitM_Course_post : sm_FitM kCourse_post := by
  show ∀ b, sm_fit (lt_R kCourse_post) (lt_n kCourse_post) (lt_fl kCourse_post).1 (lt_fl kCourse_post).2 (lt_r kCourse_post) (lt_b kCourse_post) pc_Course_post (pc_Course_post b) (cd_Course_post b) = true
  intro b
  match b with
  | 0 => exact fit_Course_post_0
  | 1 => exact fit_Course_post_1
  | 2 => exact fit_Course_post_2
  | 3 => exact fit_Course_post_3
  | 4 => exact fit_Course_post_4
  | 5 => exact fit_Course_post_5
  | 6 => exact fit_Course_post_6
  | 7 => exact fit_Course_post_7
  | n + 8 => rfl
theorem fitM_Course_receive : sm_FitM kCourse_receive := by
  show ∀ b, sm_fit (lt_R kCourse_receive) (lt_n kCourse_receive) (lt_fl kCourse_receive).1 (lt_fl kCourse_receive).2 (lt_r kCourse_receive) (lt_b kCourse_receive) pc_Course_receive (pc_Course_receive b) (cd_Course_receive b) = true
  intro b
  match b with
  | 0 => exact fit_Course_receive_0
  | 1 => exact fit_Course_receive_1
  | 2 => exact fit_Course_receive_2
  | 3 => exact fit_Course_receive_3
  | 4 => exact fit_Course_receive_4
  | 5 => exact fit_Course_receive_5
  | n + 6 => rfl
theorem fitM_Flow_forget : sm_FitM kFlow_forget := by
  show ∀ b, sm_fit (lt_R kFlow_forget) (lt_n kFlow_forget) (lt_fl kFlow_forget).1 (lt_fl kFlow_forget).2 (lt_r kFlow_forget) (lt_b kFlow_forget) pc_Flow_forget (pc_Flow_forget b) (cd_Flow_forget b) = true
  intro b
  match b with
  | 0 => exact fit_Flow_forget_0
  | n + 1 => rfl
theorem fitM_Flow_find : sm_FitM kFlow_find := by
  show ∀ b, sm_fit (lt_R kFlow_find) (lt_n kFlow_find) (lt_fl kFlow_find).1 (lt_fl kFlow_find).2 (lt_r kFlow_find) (lt_b kFlow_find) pc_Flow_find (pc_Flow_find b) (cd_Flow_find b) = true
  intro b
  match b with
  | 0 => exact fit_Flow_find_0
  | 1 => exact fit_Flow_find_1
  | 2 => exact fit_Flow_find_2
  | n + 3 => rfl
theorem fitM_Flow_errorOp : sm_FitM kFlow_errorOp := by
  show ∀ b, sm_fit (lt_R kFlow_errorOp) (lt_n kFlow_errorOp) (lt_fl kFlow_errorOp).1 (lt_fl kFlow_errorOp).2 (lt_r kFlow_errorOp) (lt_b kFlow_errorOp) pc_Flow_errorOp (pc_Flow_errorOp b) (cd_Flow_errorOp b) = true
  intro b
  match b with
  | 0 => exact fit_Flow_errorOp_0
  | n + 1 => rfl
theorem fitM_Flow_firstError : sm_FitM kFlow_firstError := by
  show ∀ b, sm_fit (lt_R kFlow_firstError) (lt_n kFlow_firstError) (lt_fl kFlow_firstError).1 (lt_fl kFlow_firstError).2 (lt_r kFlow_firstError) (lt_b kFlow_firstError) pc_Flow_firstError (pc_Flow_firstError b) (cd_Flow_firstError b) = true
  intro b
  match b with
  | 0 => exact fit_Flow_firstError_0
  | n + 1 => rfl
theorem fitM_Flow_inTheWay : sm_FitM kFlow_inTheWay := by
  show ∀ b, sm_fit (lt_R kFlow_inTheWay) (lt_n kFlow_inTheWay) (lt_fl kFlow_inTheWay).1 (lt_fl kFlow_inTheWay).2 (lt_r kFlow_inTheWay) (lt_b kFlow_inTheWay) pc_Flow_inTheWay (pc_Flow_inTheWay b) (cd_Flow_inTheWay b) = true
  intro b
  match b with
  | 0 => exact fit_Flow_inTheWay_0
  | n + 1 => rfl
theorem fitM_Flow_isComeTo : sm_FitM kFlow_isComeTo := by
  show ∀ b, sm_fit (lt_R kFlow_isComeTo) (lt_n kFlow_isComeTo) (lt_fl kFlow_isComeTo).1 (lt_fl kFlow_isComeTo).2 (lt_r kFlow_isComeTo) (lt_b kFlow_isComeTo) pc_Flow_isComeTo (pc_Flow_isComeTo b) (cd_Flow_isComeTo b) = true
  intro b
  match b with
  | 0 => exact fit_Flow_isComeTo_0
  | 1 => exact fit_Flow_isComeTo_1
  | 2 => exact fit_Flow_isComeTo_2
  | 3 => exact fit_Flow_isComeTo_3
  | 4 => exact fit_Flow_isComeTo_4
  | 5 => exact fit_Flow_isComeTo_5
  | n + 6 => rfl
theorem fitM_Flow_nameAt : sm_FitM kFlow_nameAt := by
  show ∀ b, sm_fit (lt_R kFlow_nameAt) (lt_n kFlow_nameAt) (lt_fl kFlow_nameAt).1 (lt_fl kFlow_nameAt).2 (lt_r kFlow_nameAt) (lt_b kFlow_nameAt) pc_Flow_nameAt (pc_Flow_nameAt b) (cd_Flow_nameAt b) = true
  intro b
  match b with
  | 0 => exact fit_Flow_nameAt_0
  | 1 => exact fit_Flow_nameAt_1
  | 2 => exact fit_Flow_nameAt_2
  | 3 => exact fit_Flow_nameAt_3
  | 4 => exact fit_Flow_nameAt_4
  | 5 => exact fit_Flow_nameAt_5
  | 6 => exact fit_Flow_nameAt_6
  | n + 7 => rfl
theorem fitM_Flow_stepAt : sm_FitM kFlow_stepAt := by
  show ∀ b, sm_fit (lt_R kFlow_stepAt) (lt_n kFlow_stepAt) (lt_fl kFlow_stepAt).1 (lt_fl kFlow_stepAt).2 (lt_r kFlow_stepAt) (lt_b kFlow_stepAt) pc_Flow_stepAt (pc_Flow_stepAt b) (cd_Flow_stepAt b) = true
  intro b
  match b with
  | 0 => exact fit_Flow_stepAt_0
  | 1 => exact fit_Flow_stepAt_1
  | 2 => exact fit_Flow_stepAt_2
  | 3 => exact fit_Flow_stepAt_3
  | 4 => exact fit_Flow_stepAt_4
  | 5 => exact fit_Flow_stepAt_5
  | 6 => exact fit_Flow_stepAt_6
  | n + 7 => rfl
theorem fitM_Flow_livesAt : sm_FitM kFlow_livesAt := by
  show ∀ b, sm_fit (lt_R kFlow_livesAt) (lt_n kFlow_livesAt) (lt_fl kFlow_livesAt).1 (lt_fl kFlow_livesAt).2 (lt_r kFlow_livesAt) (lt_b kFlow_livesAt) pc_Flow_livesAt (pc_Flow_livesAt b) (cd_Flow_livesAt b) = true
  intro b
  match b with
  | 0 => exact fit_Flow_livesAt_0
  | 1 => exact fit_Flow_livesAt_1
  | 2 => exact fit_Flow_livesAt_2
  | 3 => exact fit_Flow_livesAt_3
  | 4 => exact fit_Flow_livesAt_4
  | n + 5 => rfl
theorem fitM_Flow_followAll : sm_FitM kFlow_followAll := by
  show ∀ b, sm_fit (lt_R kFlow_followAll) (lt_n kFlow_followAll) (lt_fl kFlow_followAll).1 (lt_fl kFlow_followAll).2 (lt_r kFlow_followAll) (lt_b kFlow_followAll) pc_Flow_followAll (pc_Flow_followAll b) (cd_Flow_followAll b) = true
  intro b
  match b with
  | 0 => exact fit_Flow_followAll_0
  | 1 => exact fit_Flow_followAll_1
  | 2 => exact fit_Flow_followAll_2
  | 3 => exact fit_Flow_followAll_3
  | 4 => exact fit_Flow_followAll_4
  | 5 => exact fit_Flow_followAll_5
  | 6 => exact fit_Flow_followAll_6
  | 7 => exact fit_Flow_followAll_7
  | 8 => exact fit_Flow_followAll_8
  | 9 => exact fit_Flow_followAll_9
  | 10 => exact fit_Flow_followAll_10
  | 11 => exact fit_Flow_followAll_11
  | 12 => exact fit_Flow_followAll_12
  | 13 => exact fit_Flow_followAll_13
  | 14 => exact fit_Flow_followAll_14
  | 15 => exact fit_Flow_followAll_15
  | 16 => exact fit_Flow_followAll_16
  | n + 17 => rfl
theorem fitM_Flow_follow : sm_FitM kFlow_follow := by
  show ∀ b, sm_fit (lt_R kFlow_follow) (lt_n kFlow_follow) (lt_fl kFlow_follow).1 (lt_fl kFlow_follow).2 (lt_r kFlow_follow) (lt_b kFlow_follow) pc_Flow_follow (pc_Flow_follow b) (cd_Flow_follow b) = true
  intro b
  match b with
  | 0 => exact fit_Flow_follow_0
  | 1 => exact fit_Flow_follow_1
  | 2 => exact fit_Flow_follow_2
  | 3 => exact fit_Flow_follow_3
  | 4 => exact fit_Flow_follow_4
  | 5 => exact fit_Flow_follow_5
  | 6 => exact fit_Flow_follow_6
  | n + 7 => rfl
theorem fitM_Flow_goOn : sm_FitM kFlow_goOn := by
  show ∀ b, sm_fit (lt_R kFlow_goOn) (lt_n kFlow_goOn) (lt_fl kFlow_goOn).1 (lt_fl kFlow_goOn).2 (lt_r kFlow_goOn) (lt_b kFlow_goOn) pc_Flow_goOn (pc_Flow_goOn b) (cd_Flow_goOn b) = true
  intro b
  match b with
  | 0 => exact fit_Flow_goOn_0
  | 1 => exact fit_Flow_goOn_1
  | 2 => exact fit_Flow_goOn_2
  | 3 => exact fit_Flow_goOn_3
  | n + 4 => rfl
theorem fitM_Flow_changeNames : sm_FitM kFlow_changeNames := by
  show ∀ b, sm_fit (lt_R kFlow_changeNames) (lt_n kFlow_changeNames) (lt_fl kFlow_changeNames).1 (lt_fl kFlow_changeNames).2 (lt_r kFlow_changeNames) (lt_b kFlow_changeNames) pc_Flow_changeNames (pc_Flow_changeNames b) (cd_Flow_changeNames b) = true
  intro b
  match b with
  | 0 => exact fit_Flow_changeNames_0
  | 1 => exact fit_Flow_changeNames_1
  | 2 => exact fit_Flow_changeNames_2
  | 3 => exact fit_Flow_changeNames_3
  | 4 => exact fit_Flow_changeNames_4
  | 5 => exact fit_Flow_changeNames_5
  | 6 => exact fit_Flow_changeNames_6
  | 7 => exact fit_Flow_changeNames_7
  | 8 => exact fit_Flow_changeNames_8
  | 9 => exact fit_Flow_changeNames_9
  | 10 => exact fit_Flow_changeNames_10
  | 11 => exact fit_Flow_changeNames_11
  | 12 => exact fit_Flow_changeNames_12
  | n + 13 => rfl
theorem fitM_Flow_gotten : sm_FitM kFlow_gotten := by
  show ∀ b, sm_fit (lt_R kFlow_gotten) (lt_n kFlow_gotten) (lt_fl kFlow_gotten).1 (lt_fl kFlow_gotten).2 (lt_r kFlow_gotten) (lt_b kFlow_gotten) pc_Flow_gotten (pc_Flow_gotten b) (cd_Flow_gotten b) = true
  intro b
  match b with
  | 0 => exact fit_Flow_gotten_0
  | 1 => exact fit_Flow_gotten_1
  | 2 => exact fit_Flow_gotten_2
  | 3 => exact fit_Flow_gotten_3
  | 4 => exact fit_Flow_gotten_4
  | 5 => exact fit_Flow_gotten_5
  | 6 => exact fit_Flow_gotten_6
  | 7 => exact fit_Flow_gotten_7
  | 8 => exact fit_Flow_gotten_8
  | 9 => exact fit_Flow_gotten_9
  | 10 => exact fit_Flow_gotten_10
  | 11 => exact fit_Flow_gotten_11
  | 12 => exact fit_Flow_gotten_12
  | 13 => exact fit_Flow_gotten_13
  | n + 14 => rfl
theorem fitM_Flow_taken : sm_FitM kFlow_taken := by
  show ∀ b, sm_fit (lt_R kFlow_taken) (lt_n kFlow_taken) (lt_fl kFlow_taken).1 (lt_fl kFlow_taken).2 (lt_r kFlow_taken) (lt_b kFlow_taken) pc_Flow_taken (pc_Flow_taken b) (cd_Flow_taken b) = true
  intro b
  match b with
  | 0 => exact fit_Flow_taken_0
  | 1 => exact fit_Flow_taken_1
  | 2 => exact fit_Flow_taken_2
  | 3 => exact fit_Flow_taken_3
  | 4 => exact fit_Flow_taken_4
  | 5 => exact fit_Flow_taken_5
  | 6 => exact fit_Flow_taken_6
  | 7 => exact fit_Flow_taken_7
  | 8 => exact fit_Flow_taken_8
  | n + 9 => rfl
theorem fitM_Flow_reach : sm_FitM kFlow_reach := by
  show ∀ b, sm_fit (lt_R kFlow_reach) (lt_n kFlow_reach) (lt_fl kFlow_reach).1 (lt_fl kFlow_reach).2 (lt_r kFlow_reach) (lt_b kFlow_reach) pc_Flow_reach (pc_Flow_reach b) (cd_Flow_reach b) = true
  intro b
  match b with
  | 0 => exact fit_Flow_reach_0
  | 1 => exact fit_Flow_reach_1
  | 2 => exact fit_Flow_reach_2
  | 3 => exact fit_Flow_reach_3
  | 4 => exact fit_Flow_reach_4
  | 5 => exact fit_Flow_reach_5
  | 6 => exact fit_Flow_reach_6
  | 7 => exact fit_Flow_reach_7
  | 8 => exact fit_Flow_reach_8
  | 9 => exact fit_Flow_reach_9
  | 10 => exact fit_Flow_reach_10
  | 11 => exact fit_Flow_reach_11
  | 12 => exact fit_Flow_reach_12
  | 13 => exact fit_Flow_reach_13
  | 14 => exact fit_Flow_reach_14
  | 15 => exact fit_Flow_reach_15
  | 16 => exact fit_Flow_reach_16
  | 17 => exact fit_Flow_reach_17
  | 18 => exact fit_Flow_reach_18
  | 19 => exact fit_Flow_reach_19
  | 20 => exact fit_Flow_reach_20
  | 21 => exact fit_Flow_reach_21
  | 22 => exact fit_Flow_reach_22
  | 23 => exact fit_Flow_reach_23
  | 24 => exact fit_Flow_reach_24
  | 25 => exact fit_Flow_reach_25
  | 26 => exact fit_Flow_reach_26
  | n + 27 => rfl
theorem fitM_Flow_together : sm_FitM kFlow_together := by
  show ∀ b, sm_fit (lt_R kFlow_together) (lt_n kFlow_together) (lt_fl kFlow_together).1 (lt_fl kFlow_together).2 (lt_r kFlow_together) (lt_b kFlow_together) pc_Flow_together (pc_Flow_together b) (cd_Flow_together b) = true
  intro b
  match b with
  | 0 => exact fit_Flow_together_0
  | 1 => exact fit_Flow_together_1
  | 2 => exact fit_Flow_together_2
  | 3 => exact fit_Flow_together_3
  | 4 => exact fit_Flow_together_4
  | 5 => exact fit_Flow_together_5
  | 6 => exact fit_Flow_together_6
  | 7 => exact fit_Flow_together_7
  | 8 => exact fit_Flow_together_8
  | 9 => exact fit_Flow_together_9
  | 10 => exact fit_Flow_together_10
  | 11 => exact fit_Flow_together_11
  | n + 12 => rfl
theorem fitM_Flow_isMaybeAffine : sm_FitM kFlow_isMaybeAffine := by
  show ∀ b, sm_fit (lt_R kFlow_isMaybeAffine) (lt_n kFlow_isMaybeAffine) (lt_fl kFlow_isMaybeAffine).1 (lt_fl kFlow_isMaybeAffine).2 (lt_r kFlow_isMaybeAffine) (lt_b kFlow_isMaybeAffine) pc_Flow_isMaybeAffine (pc_Flow_isMaybeAffine b) (cd_Flow_isMaybeAffine b) = true
  intro b
  match b with
  | 0 => exact fit_Flow_isMaybeAffine_0
  | 1 => exact fit_Flow_isMaybeAffine_1
  | 2 => exact fit_Flow_isMaybeAffine_2
  | 3 => exact fit_Flow_isMaybeAffine_3
  | 4 => exact fit_Flow_isMaybeAffine_4
  | n + 5 => rfl
theorem fitM_Flow_isOwner : sm_FitM kFlow_isOwner := by
  show ∀ b, sm_fit (lt_R kFlow_isOwner) (lt_n kFlow_isOwner) (lt_fl kFlow_isOwner).1 (lt_fl kFlow_isOwner).2 (lt_r kFlow_isOwner) (lt_b kFlow_isOwner) pc_Flow_isOwner (pc_Flow_isOwner b) (cd_Flow_isOwner b) = true
  intro b
  match b with
  | 0 => exact fit_Flow_isOwner_0
  | 1 => exact fit_Flow_isOwner_1
  | 2 => exact fit_Flow_isOwner_2
  | 3 => exact fit_Flow_isOwner_3
  | 4 => exact fit_Flow_isOwner_4
  | n + 5 => rfl
theorem fitM_Flow_isShared : sm_FitM kFlow_isShared := by
  show ∀ b, sm_fit (lt_R kFlow_isShared) (lt_n kFlow_isShared) (lt_fl kFlow_isShared).1 (lt_fl kFlow_isShared).2 (lt_r kFlow_isShared) (lt_b kFlow_isShared) pc_Flow_isShared (pc_Flow_isShared b) (cd_Flow_isShared b) = true
  intro b
  match b with
  | 0 => exact fit_Flow_isShared_0
  | 1 => exact fit_Flow_isShared_1
  | 2 => exact fit_Flow_isShared_2
  | 3 => exact fit_Flow_isShared_3
  | 4 => exact fit_Flow_isShared_4
  | n + 5 => rfl
theorem fitM_Flow_isLent : sm_FitM kFlow_isLent := by
  show ∀ b, sm_fit (lt_R kFlow_isLent) (lt_n kFlow_isLent) (lt_fl kFlow_isLent).1 (lt_fl kFlow_isLent).2 (lt_r kFlow_isLent) (lt_b kFlow_isLent) pc_Flow_isLent (pc_Flow_isLent b) (cd_Flow_isLent b) = true
  intro b
  match b with
  | 0 => exact fit_Flow_isLent_0
  | 1 => exact fit_Flow_isLent_1
  | 2 => exact fit_Flow_isLent_2
  | 3 => exact fit_Flow_isLent_3
  | n + 4 => rfl
theorem fitM_Flow_isTakenAway : sm_FitM kFlow_isTakenAway := by
  show ∀ b, sm_fit (lt_R kFlow_isTakenAway) (lt_n kFlow_isTakenAway) (lt_fl kFlow_isTakenAway).1 (lt_fl kFlow_isTakenAway).2 (lt_r kFlow_isTakenAway) (lt_b kFlow_isTakenAway) pc_Flow_isTakenAway (pc_Flow_isTakenAway b) (cd_Flow_isTakenAway b) = true
  intro b
  match b with
  | 0 => exact fit_Flow_isTakenAway_0
  | 1 => exact fit_Flow_isTakenAway_1
  | 2 => exact fit_Flow_isTakenAway_2
  | 3 => exact fit_Flow_isTakenAway_3
  | 4 => exact fit_Flow_isTakenAway_4
  | n + 5 => rfl
theorem fitM_Flow_findLives : sm_FitM kFlow_findLives := by
  show ∀ b, sm_fit (lt_R kFlow_findLives) (lt_n kFlow_findLives) (lt_fl kFlow_findLives).1 (lt_fl kFlow_findLives).2 (lt_r kFlow_findLives) (lt_b kFlow_findLives) pc_Flow_findLives (pc_Flow_findLives b) (cd_Flow_findLives b) = true
  intro b
  match b with
  | 0 => exact fit_Flow_findLives_0
  | 1 => exact fit_Flow_findLives_1
  | 2 => exact fit_Flow_findLives_2
  | 3 => exact fit_Flow_findLives_3
  | 4 => exact fit_Flow_findLives_4
  | 5 => exact fit_Flow_findLives_5
  | 6 => exact fit_Flow_findLives_6
  | 7 => exact fit_Flow_findLives_7
  | 8 => exact fit_Flow_findLives_8
  | 9 => exact fit_Flow_findLives_9
  | 10 => exact fit_Flow_findLives_10
  | n + 11 => rfl
theorem fitM_Flow_livesBehind : sm_FitM kFlow_livesBehind := by
  show ∀ b, sm_fit (lt_R kFlow_livesBehind) (lt_n kFlow_livesBehind) (lt_fl kFlow_livesBehind).1 (lt_fl kFlow_livesBehind).2 (lt_r kFlow_livesBehind) (lt_b kFlow_livesBehind) pc_Flow_livesBehind (pc_Flow_livesBehind b) (cd_Flow_livesBehind b) = true
  intro b
  match b with
  | 0 => exact fit_Flow_livesBehind_0
  | 1 => exact fit_Flow_livesBehind_1
  | 2 => exact fit_Flow_livesBehind_2
  | 3 => exact fit_Flow_livesBehind_3
  | 4 => exact fit_Flow_livesBehind_4
  | n + 5 => rfl
theorem fitM_Flow_bit : sm_FitM kFlow_bit := by
  show ∀ b, sm_fit (lt_R kFlow_bit) (lt_n kFlow_bit) (lt_fl kFlow_bit).1 (lt_fl kFlow_bit).2 (lt_r kFlow_bit) (lt_b kFlow_bit) pc_Flow_bit (pc_Flow_bit b) (cd_Flow_bit b) = true
  intro b
  match b with
  | 0 => exact fit_Flow_bit_0
  | 1 => exact fit_Flow_bit_1
  | 2 => exact fit_Flow_bit_2
  | 3 => exact fit_Flow_bit_3
  | 4 => exact fit_Flow_bit_4
  | n + 5 => rfl
theorem fitM_Flow_findError : sm_FitM kFlow_findError := by
  show ∀ b, sm_fit (lt_R kFlow_findError) (lt_n kFlow_findError) (lt_fl kFlow_findError).1 (lt_fl kFlow_findError).2 (lt_r kFlow_findError) (lt_b kFlow_findError) pc_Flow_findError (pc_Flow_findError b) (cd_Flow_findError b) = true
  intro b
  match b with
  | 0 => exact fit_Flow_findError_0
  | 1 => exact fit_Flow_findError_1
  | 2 => exact fit_Flow_findError_2
  | 3 => exact fit_Flow_findError_3
  | 4 => exact fit_Flow_findError_4
  | 5 => exact fit_Flow_findError_5
  | 6 => exact fit_Flow_findError_6
  | 7 => exact fit_Flow_findError_7
  | 8 => exact fit_Flow_findError_8
  | 9 => exact fit_Flow_findError_9
  | n + 10 => rfl
theorem fitM_Flow_errorAt : sm_FitM kFlow_errorAt := by
  show ∀ b, sm_fit (lt_R kFlow_errorAt) (lt_n kFlow_errorAt) (lt_fl kFlow_errorAt).1 (lt_fl kFlow_errorAt).2 (lt_r kFlow_errorAt) (lt_b kFlow_errorAt) pc_Flow_errorAt (pc_Flow_errorAt b) (cd_Flow_errorAt b) = true
  intro b
  match b with
  | 0 => exact fit_Flow_errorAt_0
  | 1 => exact fit_Flow_errorAt_1
  | 2 => exact fit_Flow_errorAt_2
  | 3 => exact fit_Flow_errorAt_3
  | 4 => exact fit_Flow_errorAt_4
  | 5 => exact fit_Flow_errorAt_5
  | 6 => exact fit_Flow_errorAt_6
  | 7 => exact fit_Flow_errorAt_7
  | 8 => exact fit_Flow_errorAt_8
  | 9 => exact fit_Flow_errorAt_9
  | 10 => exact fit_Flow_errorAt_10
  | 11 => exact fit_Flow_errorAt_11
  | 12 => exact fit_Flow_errorAt_12
  | 13 => exact fit_Flow_errorAt_13
  | 14 => exact fit_Flow_errorAt_14
  | 15 => exact fit_Flow_errorAt_15
  | 16 => exact fit_Flow_errorAt_16
  | 17 => exact fit_Flow_errorAt_17
  | 18 => exact fit_Flow_errorAt_18
  | n + 19 => rfl
theorem fitM_Flow_isUnlike : sm_FitM kFlow_isUnlike := by
  show ∀ b, sm_fit (lt_R kFlow_isUnlike) (lt_n kFlow_isUnlike) (lt_fl kFlow_isUnlike).1 (lt_fl kFlow_isUnlike).2 (lt_r kFlow_isUnlike) (lt_b kFlow_isUnlike) pc_Flow_isUnlike (pc_Flow_isUnlike b) (cd_Flow_isUnlike b) = true
  intro b
  match b with
  | 0 => exact fit_Flow_isUnlike_0
  | 1 => exact fit_Flow_isUnlike_1
  | 2 => exact fit_Flow_isUnlike_2
  | 3 => exact fit_Flow_isUnlike_3
  | 4 => exact fit_Flow_isUnlike_4
  | 5 => exact fit_Flow_isUnlike_5
  | 6 => exact fit_Flow_isUnlike_6
  | 7 => exact fit_Flow_isUnlike_7
  | 8 => exact fit_Flow_isUnlike_8
  | 9 => exact fit_Flow_isUnlike_9
  | 10 => exact fit_Flow_isUnlike_10
  | n + 11 => rfl
theorem fitM_Flow_endErrorAt : sm_FitM kFlow_endErrorAt := by
  show ∀ b, sm_fit (lt_R kFlow_endErrorAt) (lt_n kFlow_endErrorAt) (lt_fl kFlow_endErrorAt).1 (lt_fl kFlow_endErrorAt).2 (lt_r kFlow_endErrorAt) (lt_b kFlow_endErrorAt) pc_Flow_endErrorAt (pc_Flow_endErrorAt b) (cd_Flow_endErrorAt b) = true
  intro b
  match b with
  | 0 => exact fit_Flow_endErrorAt_0
  | 1 => exact fit_Flow_endErrorAt_1
  | 2 => exact fit_Flow_endErrorAt_2
  | 3 => exact fit_Flow_endErrorAt_3
  | 4 => exact fit_Flow_endErrorAt_4
  | 5 => exact fit_Flow_endErrorAt_5
  | 6 => exact fit_Flow_endErrorAt_6
  | 7 => exact fit_Flow_endErrorAt_7
  | 8 => exact fit_Flow_endErrorAt_8
  | 9 => exact fit_Flow_endErrorAt_9
  | 10 => exact fit_Flow_endErrorAt_10
  | 11 => exact fit_Flow_endErrorAt_11
  | n + 12 => rfl
theorem fitM_Flow_isWrongKind : sm_FitM kFlow_isWrongKind := by
  show ∀ b, sm_fit (lt_R kFlow_isWrongKind) (lt_n kFlow_isWrongKind) (lt_fl kFlow_isWrongKind).1 (lt_fl kFlow_isWrongKind).2 (lt_r kFlow_isWrongKind) (lt_b kFlow_isWrongKind) pc_Flow_isWrongKind (pc_Flow_isWrongKind b) (cd_Flow_isWrongKind b) = true
  intro b
  match b with
  | 0 => exact fit_Flow_isWrongKind_0
  | 1 => exact fit_Flow_isWrongKind_1
  | 2 => exact fit_Flow_isWrongKind_2
  | 3 => exact fit_Flow_isWrongKind_3
  | 4 => exact fit_Flow_isWrongKind_4
  | 5 => exact fit_Flow_isWrongKind_5
  | 6 => exact fit_Flow_isWrongKind_6
  | 7 => exact fit_Flow_isWrongKind_7
  | n + 8 => rfl
theorem fitM_Flow_isOutOfSession : sm_FitM kFlow_isOutOfSession := by
  show ∀ b, sm_fit (lt_R kFlow_isOutOfSession) (lt_n kFlow_isOutOfSession) (lt_fl kFlow_isOutOfSession).1 (lt_fl kFlow_isOutOfSession).2 (lt_r kFlow_isOutOfSession) (lt_b kFlow_isOutOfSession) pc_Flow_isOutOfSession (pc_Flow_isOutOfSession b) (cd_Flow_isOutOfSession b) = true
  intro b
  match b with
  | 0 => exact fit_Flow_isOutOfSession_0
  | 1 => exact fit_Flow_isOutOfSession_1
  | 2 => exact fit_Flow_isOutOfSession_2
  | 3 => exact fit_Flow_isOutOfSession_3
  | 4 => exact fit_Flow_isOutOfSession_4
  | n + 5 => rfl
theorem fitM_Flow_borrowerAt : sm_FitM kFlow_borrowerAt := by
  show ∀ b, sm_fit (lt_R kFlow_borrowerAt) (lt_n kFlow_borrowerAt) (lt_fl kFlow_borrowerAt).1 (lt_fl kFlow_borrowerAt).2 (lt_r kFlow_borrowerAt) (lt_b kFlow_borrowerAt) pc_Flow_borrowerAt (pc_Flow_borrowerAt b) (cd_Flow_borrowerAt b) = true
  intro b
  match b with
  | 0 => exact fit_Flow_borrowerAt_0
  | 1 => exact fit_Flow_borrowerAt_1
  | 2 => exact fit_Flow_borrowerAt_2
  | 3 => exact fit_Flow_borrowerAt_3
  | 4 => exact fit_Flow_borrowerAt_4
  | 5 => exact fit_Flow_borrowerAt_5
  | 6 => exact fit_Flow_borrowerAt_6
  | 7 => exact fit_Flow_borrowerAt_7
  | 8 => exact fit_Flow_borrowerAt_8
  | 9 => exact fit_Flow_borrowerAt_9
  | 10 => exact fit_Flow_borrowerAt_10
  | 11 => exact fit_Flow_borrowerAt_11
  | 12 => exact fit_Flow_borrowerAt_12
  | n + 13 => rfl
theorem fitM_Flow_leavesShares : sm_FitM kFlow_leavesShares := by
  show ∀ b, sm_fit (lt_R kFlow_leavesShares) (lt_n kFlow_leavesShares) (lt_fl kFlow_leavesShares).1 (lt_fl kFlow_leavesShares).2 (lt_r kFlow_leavesShares) (lt_b kFlow_leavesShares) pc_Flow_leavesShares (pc_Flow_leavesShares b) (cd_Flow_leavesShares b) = true
  intro b
  match b with
  | 0 => exact fit_Flow_leavesShares_0
  | 1 => exact fit_Flow_leavesShares_1
  | 2 => exact fit_Flow_leavesShares_2
  | 3 => exact fit_Flow_leavesShares_3
  | 4 => exact fit_Flow_leavesShares_4
  | 5 => exact fit_Flow_leavesShares_5
  | 6 => exact fit_Flow_leavesShares_6
  | 7 => exact fit_Flow_leavesShares_7
  | n + 8 => rfl
theorem fitM_Flow_lowestBorrower : sm_FitM kFlow_lowestBorrower := by
  show ∀ b, sm_fit (lt_R kFlow_lowestBorrower) (lt_n kFlow_lowestBorrower) (lt_fl kFlow_lowestBorrower).1 (lt_fl kFlow_lowestBorrower).2 (lt_r kFlow_lowestBorrower) (lt_b kFlow_lowestBorrower) pc_Flow_lowestBorrower (pc_Flow_lowestBorrower b) (cd_Flow_lowestBorrower b) = true
  intro b
  match b with
  | 0 => exact fit_Flow_lowestBorrower_0
  | 1 => exact fit_Flow_lowestBorrower_1
  | 2 => exact fit_Flow_lowestBorrower_2
  | 3 => exact fit_Flow_lowestBorrower_3
  | 4 => exact fit_Flow_lowestBorrower_4
  | 5 => exact fit_Flow_lowestBorrower_5
  | 6 => exact fit_Flow_lowestBorrower_6
  | 7 => exact fit_Flow_lowestBorrower_7
  | 8 => exact fit_Flow_lowestBorrower_8
  | 9 => exact fit_Flow_lowestBorrower_9
  | 10 => exact fit_Flow_lowestBorrower_10
  | 11 => exact fit_Flow_lowestBorrower_11
  | n + 12 => rfl
theorem fitM_Layouts_forget : sm_FitM kLayouts_forget := by
  show ∀ b, sm_fit (lt_R kLayouts_forget) (lt_n kLayouts_forget) (lt_fl kLayouts_forget).1 (lt_fl kLayouts_forget).2 (lt_r kLayouts_forget) (lt_b kLayouts_forget) pc_Layouts_forget (pc_Layouts_forget b) (cd_Layouts_forget b) = true
  intro b
  match b with
  | 0 => exact fit_Layouts_forget_0
  | n + 1 => rfl
theorem fitM_Layouts_answer : sm_FitM kLayouts_answer := by
  show ∀ b, sm_fit (lt_R kLayouts_answer) (lt_n kLayouts_answer) (lt_fl kLayouts_answer).1 (lt_fl kLayouts_answer).2 (lt_r kLayouts_answer) (lt_b kLayouts_answer) pc_Layouts_answer (pc_Layouts_answer b) (cd_Layouts_answer b) = true
  intro b
  match b with
  | 0 => exact fit_Layouts_answer_0
  | 1 => exact fit_Layouts_answer_1
  | 2 => exact fit_Layouts_answer_2
  | n + 3 => rfl
theorem fitM_Layouts_search : sm_FitM kLayouts_search := by
  show ∀ b, sm_fit (lt_R kLayouts_search) (lt_n kLayouts_search) (lt_fl kLayouts_search).1 (lt_fl kLayouts_search).2 (lt_r kLayouts_search) (lt_b kLayouts_search) pc_Layouts_search (pc_Layouts_search b) (cd_Layouts_search b) = true
  intro b
  match b with
  | 0 => exact fit_Layouts_search_0
  | 1 => exact fit_Layouts_search_1
  | 2 => exact fit_Layouts_search_2
  | 3 => exact fit_Layouts_search_3
  | 4 => exact fit_Layouts_search_4
  | 5 => exact fit_Layouts_search_5
  | 6 => exact fit_Layouts_search_6
  | 7 => exact fit_Layouts_search_7
  | 8 => exact fit_Layouts_search_8
  | 9 => exact fit_Layouts_search_9
  | 10 => exact fit_Layouts_search_10
  | 11 => exact fit_Layouts_search_11
  | n + 12 => rfl
theorem fitM_Layouts_goOn : sm_FitM kLayouts_goOn := by
  show ∀ b, sm_fit (lt_R kLayouts_goOn) (lt_n kLayouts_goOn) (lt_fl kLayouts_goOn).1 (lt_fl kLayouts_goOn).2 (lt_r kLayouts_goOn) (lt_b kLayouts_goOn) pc_Layouts_goOn (pc_Layouts_goOn b) (cd_Layouts_goOn b) = true
  intro b
  match b with
  | 0 => exact fit_Layouts_goOn_0
  | 1 => exact fit_Layouts_goOn_1
  | 2 => exact fit_Layouts_goOn_2
  | 3 => exact fit_Layouts_goOn_3
  | 4 => exact fit_Layouts_goOn_4
  | 5 => exact fit_Layouts_goOn_5
  | 6 => exact fit_Layouts_goOn_6
  | 7 => exact fit_Layouts_goOn_7
  | 8 => exact fit_Layouts_goOn_8
  | n + 9 => rfl
theorem fitM_Layouts_reach : sm_FitM kLayouts_reach := by
  show ∀ b, sm_fit (lt_R kLayouts_reach) (lt_n kLayouts_reach) (lt_fl kLayouts_reach).1 (lt_fl kLayouts_reach).2 (lt_r kLayouts_reach) (lt_b kLayouts_reach) pc_Layouts_reach (pc_Layouts_reach b) (cd_Layouts_reach b) = true
  intro b
  match b with
  | 0 => exact fit_Layouts_reach_0
  | 1 => exact fit_Layouts_reach_1
  | 2 => exact fit_Layouts_reach_2
  | 3 => exact fit_Layouts_reach_3
  | 4 => exact fit_Layouts_reach_4
  | 5 => exact fit_Layouts_reach_5
  | 6 => exact fit_Layouts_reach_6
  | 7 => exact fit_Layouts_reach_7
  | 8 => exact fit_Layouts_reach_8
  | n + 9 => rfl
theorem fitM_Layouts_keep : sm_FitM kLayouts_keep := by
  show ∀ b, sm_fit (lt_R kLayouts_keep) (lt_n kLayouts_keep) (lt_fl kLayouts_keep).1 (lt_fl kLayouts_keep).2 (lt_r kLayouts_keep) (lt_b kLayouts_keep) pc_Layouts_keep (pc_Layouts_keep b) (cd_Layouts_keep b) = true
  intro b
  match b with
  | 0 => exact fit_Layouts_keep_0
  | 1 => exact fit_Layouts_keep_1
  | 2 => exact fit_Layouts_keep_2
  | n + 3 => rfl
theorem fitM_Layouts_allEnded : sm_FitM kLayouts_allEnded := by
  show ∀ b, sm_fit (lt_R kLayouts_allEnded) (lt_n kLayouts_allEnded) (lt_fl kLayouts_allEnded).1 (lt_fl kLayouts_allEnded).2 (lt_r kLayouts_allEnded) (lt_b kLayouts_allEnded) pc_Layouts_allEnded (pc_Layouts_allEnded b) (cd_Layouts_allEnded b) = true
  intro b
  match b with
  | 0 => exact fit_Layouts_allEnded_0
  | 1 => exact fit_Layouts_allEnded_1
  | 2 => exact fit_Layouts_allEnded_2
  | 3 => exact fit_Layouts_allEnded_3
  | 4 => exact fit_Layouts_allEnded_4
  | 5 => exact fit_Layouts_allEnded_5
  | n + 6 => rfl
theorem fitM_Layouts_hasEnded : sm_FitM kLayouts_hasEnded := by
  show ∀ b, sm_fit (lt_R kLayouts_hasEnded) (lt_n kLayouts_hasEnded) (lt_fl kLayouts_hasEnded).1 (lt_fl kLayouts_hasEnded).2 (lt_r kLayouts_hasEnded) (lt_b kLayouts_hasEnded) pc_Layouts_hasEnded (pc_Layouts_hasEnded b) (cd_Layouts_hasEnded b) = true
  intro b
  match b with
  | 0 => exact fit_Layouts_hasEnded_0
  | 1 => exact fit_Layouts_hasEnded_1
  | 2 => exact fit_Layouts_hasEnded_2
  | 3 => exact fit_Layouts_hasEnded_3
  | n + 4 => rfl
theorem fitM_Layouts_next : sm_FitM kLayouts_next := by
  show ∀ b, sm_fit (lt_R kLayouts_next) (lt_n kLayouts_next) (lt_fl kLayouts_next).1 (lt_fl kLayouts_next).2 (lt_r kLayouts_next) (lt_b kLayouts_next) pc_Layouts_next (pc_Layouts_next b) (cd_Layouts_next b) = true
  intro b
  match b with
  | 0 => exact fit_Layouts_next_0
  | 1 => exact fit_Layouts_next_1
  | 2 => exact fit_Layouts_next_2
  | 3 => exact fit_Layouts_next_3
  | 4 => exact fit_Layouts_next_4
  | 5 => exact fit_Layouts_next_5
  | 6 => exact fit_Layouts_next_6
  | 7 => exact fit_Layouts_next_7
  | 8 => exact fit_Layouts_next_8
  | 9 => exact fit_Layouts_next_9
  | 10 => exact fit_Layouts_next_10
  | 11 => exact fit_Layouts_next_11
  | 12 => exact fit_Layouts_next_12
  | 13 => exact fit_Layouts_next_13
  | n + 14 => rfl
theorem fitM_Layouts_moved : sm_FitM kLayouts_moved := by
  show ∀ b, sm_fit (lt_R kLayouts_moved) (lt_n kLayouts_moved) (lt_fl kLayouts_moved).1 (lt_fl kLayouts_moved).2 (lt_r kLayouts_moved) (lt_b kLayouts_moved) pc_Layouts_moved (pc_Layouts_moved b) (cd_Layouts_moved b) = true
  intro b
  match b with
  | 0 => exact fit_Layouts_moved_0
  | n + 1 => rfl
theorem fitM_Layouts_posted : sm_FitM kLayouts_posted := by
  show ∀ b, sm_fit (lt_R kLayouts_posted) (lt_n kLayouts_posted) (lt_fl kLayouts_posted).1 (lt_fl kLayouts_posted).2 (lt_r kLayouts_posted) (lt_b kLayouts_posted) pc_Layouts_posted (pc_Layouts_posted b) (cd_Layouts_posted b) = true
  intro b
  match b with
  | 0 => exact fit_Layouts_posted_0
  | 1 => exact fit_Layouts_posted_1
  | 2 => exact fit_Layouts_posted_2
  | 3 => exact fit_Layouts_posted_3
  | 4 => exact fit_Layouts_posted_4
  | 5 => exact fit_Layouts_posted_5
  | 6 => exact fit_Layouts_posted_6
  | n + 7 => rfl
theorem fitM_Layouts_received : sm_FitM kLayouts_received := by
  show ∀ b, sm_fit (lt_R kLayouts_received) (lt_n kLayouts_received) (lt_fl kLayouts_received).1 (lt_fl kLayouts_received).2 (lt_r kLayouts_received) (lt_b kLayouts_received) pc_Layouts_received (pc_Layouts_received b) (cd_Layouts_received b) = true
  intro b
  match b with
  | 0 => exact fit_Layouts_received_0
  | 1 => exact fit_Layouts_received_1
  | 2 => exact fit_Layouts_received_2
  | 3 => exact fit_Layouts_received_3
  | 4 => exact fit_Layouts_received_4
  | 5 => exact fit_Layouts_received_5
  | 6 => exact fit_Layouts_received_6
  | 7 => exact fit_Layouts_received_7
  | 8 => exact fit_Layouts_received_8
  | 9 => exact fit_Layouts_received_9
  | n + 10 => rfl
theorem fitM_Layouts_messageAt : sm_FitM kLayouts_messageAt := by
  show ∀ b, sm_fit (lt_R kLayouts_messageAt) (lt_n kLayouts_messageAt) (lt_fl kLayouts_messageAt).1 (lt_fl kLayouts_messageAt).2 (lt_r kLayouts_messageAt) (lt_b kLayouts_messageAt) pc_Layouts_messageAt (pc_Layouts_messageAt b) (cd_Layouts_messageAt b) = true
  intro b
  match b with
  | 0 => exact fit_Layouts_messageAt_0
  | n + 1 => rfl
theorem fitM_Layouts_shiftOf : sm_FitM kLayouts_shiftOf := by
  show ∀ b, sm_fit (lt_R kLayouts_shiftOf) (lt_n kLayouts_shiftOf) (lt_fl kLayouts_shiftOf).1 (lt_fl kLayouts_shiftOf).2 (lt_r kLayouts_shiftOf) (lt_b kLayouts_shiftOf) pc_Layouts_shiftOf (pc_Layouts_shiftOf b) (cd_Layouts_shiftOf b) = true
  intro b
  match b with
  | 0 => exact fit_Layouts_shiftOf_0
  | n + 1 => rfl
theorem fitM_Ledger_clear : sm_FitM kLedger_clear := by
  show ∀ b, sm_fit (lt_R kLedger_clear) (lt_n kLedger_clear) (lt_fl kLedger_clear).1 (lt_fl kLedger_clear).2 (lt_r kLedger_clear) (lt_b kLedger_clear) pc_Ledger_clear (pc_Ledger_clear b) (cd_Ledger_clear b) = true
  intro b
  match b with
  | 0 => exact fit_Ledger_clear_0
  | n + 1 => rfl
theorem fitM_Ledger_numbered : sm_FitM kLedger_numbered := by
  show ∀ b, sm_fit (lt_R kLedger_numbered) (lt_n kLedger_numbered) (lt_fl kLedger_numbered).1 (lt_fl kLedger_numbered).2 (lt_r kLedger_numbered) (lt_b kLedger_numbered) pc_Ledger_numbered (pc_Ledger_numbered b) (cd_Ledger_numbered b) = true
  intro b
  match b with
  | 0 => exact fit_Ledger_numbered_0
  | n + 1 => rfl
theorem fitM_Ledger_told : sm_FitM kLedger_told := by
  show ∀ b, sm_fit (lt_R kLedger_told) (lt_n kLedger_told) (lt_fl kLedger_told).1 (lt_fl kLedger_told).2 (lt_r kLedger_told) (lt_b kLedger_told) pc_Ledger_told (pc_Ledger_told b) (cd_Ledger_told b) = true
  intro b
  match b with
  | 0 => exact fit_Ledger_told_0
  | n + 1 => rfl
theorem fitM_Ledger_droppedAt : sm_FitM kLedger_droppedAt := by
  show ∀ b, sm_fit (lt_R kLedger_droppedAt) (lt_n kLedger_droppedAt) (lt_fl kLedger_droppedAt).1 (lt_fl kLedger_droppedAt).2 (lt_r kLedger_droppedAt) (lt_b kLedger_droppedAt) pc_Ledger_droppedAt (pc_Ledger_droppedAt b) (cd_Ledger_droppedAt b) = true
  intro b
  match b with
  | 0 => exact fit_Ledger_droppedAt_0
  | 1 => exact fit_Ledger_droppedAt_1
  | 2 => exact fit_Ledger_droppedAt_2
  | 3 => exact fit_Ledger_droppedAt_3
  | n + 4 => rfl
theorem fitM_Ledger_newValue : sm_FitM kLedger_newValue := by
  show ∀ b, sm_fit (lt_R kLedger_newValue) (lt_n kLedger_newValue) (lt_fl kLedger_newValue).1 (lt_fl kLedger_newValue).2 (lt_r kLedger_newValue) (lt_b kLedger_newValue) pc_Ledger_newValue (pc_Ledger_newValue b) (cd_Ledger_newValue b) = true
  intro b
  match b with
  | 0 => exact fit_Ledger_newValue_0
  | n + 1 => rfl
theorem fitM_Ledger_newTime : sm_FitM kLedger_newTime := by
  show ∀ b, sm_fit (lt_R kLedger_newTime) (lt_n kLedger_newTime) (lt_fl kLedger_newTime).1 (lt_fl kLedger_newTime).2 (lt_r kLedger_newTime) (lt_b kLedger_newTime) pc_Ledger_newTime (pc_Ledger_newTime b) (cd_Ledger_newTime b) = true
  intro b
  match b with
  | 0 => exact fit_Ledger_newTime_0
  | n + 1 => rfl
theorem fitM_Ledger_drop : sm_FitM kLedger_drop := by
  show ∀ b, sm_fit (lt_R kLedger_drop) (lt_n kLedger_drop) (lt_fl kLedger_drop).1 (lt_fl kLedger_drop).2 (lt_r kLedger_drop) (lt_b kLedger_drop) pc_Ledger_drop (pc_Ledger_drop b) (cd_Ledger_drop b) = true
  intro b
  match b with
  | 0 => exact fit_Ledger_drop_0
  | 1 => exact fit_Ledger_drop_1
  | 2 => exact fit_Ledger_drop_2
  | n + 3 => rfl
theorem fitM_Messages_clear : sm_FitM kMessages_clear := by
  show ∀ b, sm_fit (lt_R kMessages_clear) (lt_n kMessages_clear) (lt_fl kMessages_clear).1 (lt_fl kMessages_clear).2 (lt_r kMessages_clear) (lt_b kMessages_clear) pc_Messages_clear (pc_Messages_clear b) (cd_Messages_clear b) = true
  intro b
  match b with
  | 0 => exact fit_Messages_clear_0
  | n + 1 => rfl
theorem fitM_Messages_size : sm_FitM kMessages_size := by
  show ∀ b, sm_fit (lt_R kMessages_size) (lt_n kMessages_size) (lt_fl kMessages_size).1 (lt_fl kMessages_size).2 (lt_r kMessages_size) (lt_b kMessages_size) pc_Messages_size (pc_Messages_size b) (cd_Messages_size b) = true
  intro b
  match b with
  | 0 => exact fit_Messages_size_0
  | 1 => exact fit_Messages_size_1
  | 2 => exact fit_Messages_size_2
  | 3 => exact fit_Messages_size_3
  | n + 4 => rfl
theorem fitM_Messages_valueAt : sm_FitM kMessages_valueAt := by
  show ∀ b, sm_fit (lt_R kMessages_valueAt) (lt_n kMessages_valueAt) (lt_fl kMessages_valueAt).1 (lt_fl kMessages_valueAt).2 (lt_r kMessages_valueAt) (lt_b kMessages_valueAt) pc_Messages_valueAt (pc_Messages_valueAt b) (cd_Messages_valueAt b) = true
  intro b
  match b with
  | 0 => exact fit_Messages_valueAt_0
  | 1 => exact fit_Messages_valueAt_1
  | 2 => exact fit_Messages_valueAt_2
  | 3 => exact fit_Messages_valueAt_3
  | n + 4 => rfl
theorem fitM_Messages_firstMark : sm_FitM kMessages_firstMark := by
  show ∀ b, sm_fit (lt_R kMessages_firstMark) (lt_n kMessages_firstMark) (lt_fl kMessages_firstMark).1 (lt_fl kMessages_firstMark).2 (lt_r kMessages_firstMark) (lt_b kMessages_firstMark) pc_Messages_firstMark (pc_Messages_firstMark b) (cd_Messages_firstMark b) = true
  intro b
  match b with
  | 0 => exact fit_Messages_firstMark_0
  | 1 => exact fit_Messages_firstMark_1
  | 2 => exact fit_Messages_firstMark_2
  | 3 => exact fit_Messages_firstMark_3
  | n + 4 => rfl
theorem fitM_Messages_add : sm_FitM kMessages_add := by
  show ∀ b, sm_fit (lt_R kMessages_add) (lt_n kMessages_add) (lt_fl kMessages_add).1 (lt_fl kMessages_add).2 (lt_r kMessages_add) (lt_b kMessages_add) pc_Messages_add (pc_Messages_add b) (cd_Messages_add b) = true
  intro b
  match b with
  | 0 => exact fit_Messages_add_0
  | 1 => exact fit_Messages_add_1
  | 2 => exact fit_Messages_add_2
  | 3 => exact fit_Messages_add_3
  | n + 4 => rfl
theorem fitM_Messages_removeFirst : sm_FitM kMessages_removeFirst := by
  show ∀ b, sm_fit (lt_R kMessages_removeFirst) (lt_n kMessages_removeFirst) (lt_fl kMessages_removeFirst).1 (lt_fl kMessages_removeFirst).2 (lt_r kMessages_removeFirst) (lt_b kMessages_removeFirst) pc_Messages_removeFirst (pc_Messages_removeFirst b) (cd_Messages_removeFirst b) = true
  intro b
  match b with
  | 0 => exact fit_Messages_removeFirst_0
  | 1 => exact fit_Messages_removeFirst_1
  | 2 => exact fit_Messages_removeFirst_2
  | 3 => exact fit_Messages_removeFirst_3
  | 4 => exact fit_Messages_removeFirst_4
  | 5 => exact fit_Messages_removeFirst_5
  | 6 => exact fit_Messages_removeFirst_6
  | n + 7 => rfl
theorem fitM_Messages_empty : sm_FitM kMessages_empty := by
  show ∀ b, sm_fit (lt_R kMessages_empty) (lt_n kMessages_empty) (lt_fl kMessages_empty).1 (lt_fl kMessages_empty).2 (lt_r kMessages_empty) (lt_b kMessages_empty) pc_Messages_empty (pc_Messages_empty b) (cd_Messages_empty b) = true
  intro b
  match b with
  | 0 => exact fit_Messages_empty_0
  | 1 => exact fit_Messages_empty_1
  | 2 => exact fit_Messages_empty_2
  | n + 3 => rfl
theorem fitM_Protocol_allows : sm_FitM kProtocol_allows := by
  show ∀ b, sm_fit (lt_R kProtocol_allows) (lt_n kProtocol_allows) (lt_fl kProtocol_allows).1 (lt_fl kProtocol_allows).2 (lt_r kProtocol_allows) (lt_b kProtocol_allows) pc_Protocol_allows (pc_Protocol_allows b) (cd_Protocol_allows b) = true
  intro b
  match b with
  | 0 => exact fit_Protocol_allows_0
  | 1 => exact fit_Protocol_allows_1
  | 2 => exact fit_Protocol_allows_2
  | 3 => exact fit_Protocol_allows_3
  | 4 => exact fit_Protocol_allows_4
  | 5 => exact fit_Protocol_allows_5
  | 6 => exact fit_Protocol_allows_6
  | 7 => exact fit_Protocol_allows_7
  | 8 => exact fit_Protocol_allows_8
  | 9 => exact fit_Protocol_allows_9
  | 10 => exact fit_Protocol_allows_10
  | 11 => exact fit_Protocol_allows_11
  | 12 => exact fit_Protocol_allows_12
  | 13 => exact fit_Protocol_allows_13
  | 14 => exact fit_Protocol_allows_14
  | n + 15 => rfl
theorem fitM_Protocol_size : sm_FitM kProtocol_size := by
  show ∀ b, sm_fit (lt_R kProtocol_size) (lt_n kProtocol_size) (lt_fl kProtocol_size).1 (lt_fl kProtocol_size).2 (lt_r kProtocol_size) (lt_b kProtocol_size) pc_Protocol_size (pc_Protocol_size b) (cd_Protocol_size b) = true
  intro b
  match b with
  | 0 => exact fit_Protocol_size_0
  | n + 1 => rfl
theorem fitM_Protocol_isFull : sm_FitM kProtocol_isFull := by
  show ∀ b, sm_fit (lt_R kProtocol_isFull) (lt_n kProtocol_isFull) (lt_fl kProtocol_isFull).1 (lt_fl kProtocol_isFull).2 (lt_r kProtocol_isFull) (lt_b kProtocol_isFull) pc_Protocol_isFull (pc_Protocol_isFull b) (cd_Protocol_isFull b) = true
  intro b
  match b with
  | 0 => exact fit_Protocol_isFull_0
  | 1 => exact fit_Protocol_isFull_1
  | 2 => exact fit_Protocol_isFull_2
  | 3 => exact fit_Protocol_isFull_3
  | n + 4 => rfl
theorem fitM_Protocol_add : sm_FitM kProtocol_add := by
  show ∀ b, sm_fit (lt_R kProtocol_add) (lt_n kProtocol_add) (lt_fl kProtocol_add).1 (lt_fl kProtocol_add).2 (lt_r kProtocol_add) (lt_b kProtocol_add) pc_Protocol_add (pc_Protocol_add b) (cd_Protocol_add b) = true
  intro b
  match b with
  | 0 => exact fit_Protocol_add_0
  | 1 => exact fit_Protocol_add_1
  | 2 => exact fit_Protocol_add_2
  | n + 3 => rfl
theorem fitM_Protocol_isWhole : sm_FitM kProtocol_isWhole := by
  show ∀ b, sm_fit (lt_R kProtocol_isWhole) (lt_n kProtocol_isWhole) (lt_fl kProtocol_isWhole).1 (lt_fl kProtocol_isWhole).2 (lt_r kProtocol_isWhole) (lt_b kProtocol_isWhole) pc_Protocol_isWhole (pc_Protocol_isWhole b) (cd_Protocol_isWhole b) = true
  intro b
  match b with
  | 0 => exact fit_Protocol_isWhole_0
  | 1 => exact fit_Protocol_isWhole_1
  | 2 => exact fit_Protocol_isWhole_2
  | 3 => exact fit_Protocol_isWhole_3
  | 4 => exact fit_Protocol_isWhole_4
  | 5 => exact fit_Protocol_isWhole_5
  | 6 => exact fit_Protocol_isWhole_6
  | 7 => exact fit_Protocol_isWhole_7
  | 8 => exact fit_Protocol_isWhole_8
  | 9 => exact fit_Protocol_isWhole_9
  | n + 10 => rfl
theorem fitM_Protocol_whatAt : sm_FitM kProtocol_whatAt := by
  show ∀ b, sm_fit (lt_R kProtocol_whatAt) (lt_n kProtocol_whatAt) (lt_fl kProtocol_whatAt).1 (lt_fl kProtocol_whatAt).2 (lt_r kProtocol_whatAt) (lt_b kProtocol_whatAt) pc_Protocol_whatAt (pc_Protocol_whatAt b) (cd_Protocol_whatAt b) = true
  intro b
  match b with
  | 0 => exact fit_Protocol_whatAt_0
  | 1 => exact fit_Protocol_whatAt_1
  | 2 => exact fit_Protocol_whatAt_2
  | 3 => exact fit_Protocol_whatAt_3
  | n + 4 => rfl
theorem fitM_Protocol_kindAt : sm_FitM kProtocol_kindAt := by
  show ∀ b, sm_fit (lt_R kProtocol_kindAt) (lt_n kProtocol_kindAt) (lt_fl kProtocol_kindAt).1 (lt_fl kProtocol_kindAt).2 (lt_r kProtocol_kindAt) (lt_b kProtocol_kindAt) pc_Protocol_kindAt (pc_Protocol_kindAt b) (cd_Protocol_kindAt b) = true
  intro b
  match b with
  | 0 => exact fit_Protocol_kindAt_0
  | 1 => exact fit_Protocol_kindAt_1
  | 2 => exact fit_Protocol_kindAt_2
  | 3 => exact fit_Protocol_kindAt_3
  | n + 4 => rfl
theorem fitM_Protocol_nextAt : sm_FitM kProtocol_nextAt := by
  show ∀ b, sm_fit (lt_R kProtocol_nextAt) (lt_n kProtocol_nextAt) (lt_fl kProtocol_nextAt).1 (lt_fl kProtocol_nextAt).2 (lt_r kProtocol_nextAt) (lt_b kProtocol_nextAt) pc_Protocol_nextAt (pc_Protocol_nextAt b) (cd_Protocol_nextAt b) = true
  intro b
  match b with
  | 0 => exact fit_Protocol_nextAt_0
  | 1 => exact fit_Protocol_nextAt_1
  | 2 => exact fit_Protocol_nextAt_2
  | 3 => exact fit_Protocol_nextAt_3
  | 4 => exact fit_Protocol_nextAt_4
  | 5 => exact fit_Protocol_nextAt_5
  | 6 => exact fit_Protocol_nextAt_6
  | 7 => exact fit_Protocol_nextAt_7
  | 8 => exact fit_Protocol_nextAt_8
  | 9 => exact fit_Protocol_nextAt_9
  | 10 => exact fit_Protocol_nextAt_10
  | 11 => exact fit_Protocol_nextAt_11
  | n + 12 => rfl
theorem fitM_Top_step : sm_FitM kTop_step := by
  show ∀ b, sm_fit (lt_R kTop_step) (lt_n kTop_step) (lt_fl kTop_step).1 (lt_fl kTop_step).2 (lt_r kTop_step) (lt_b kTop_step) pc_Top_step (pc_Top_step b) (cd_Top_step b) = true
  intro b
  match b with
  | 0 => exact fit_Top_step_0
  | 1 => exact fit_Top_step_1
  | 2 => exact fit_Top_step_2
  | 3 => exact fit_Top_step_3
  | 4 => exact fit_Top_step_4
  | 5 => exact fit_Top_step_5
  | 6 => exact fit_Top_step_6
  | 7 => exact fit_Top_step_7
  | n + 8 => rfl
theorem fitM_Top_channel : sm_FitM kTop_channel := by
  show ∀ b, sm_fit (lt_R kTop_channel) (lt_n kTop_channel) (lt_fl kTop_channel).1 (lt_fl kTop_channel).2 (lt_r kTop_channel) (lt_b kTop_channel) pc_Top_channel (pc_Top_channel b) (cd_Top_channel b) = true
  intro b
  match b with
  | 0 => exact fit_Top_channel_0
  | 1 => exact fit_Top_channel_1
  | 2 => exact fit_Top_channel_2
  | 3 => exact fit_Top_channel_3
  | 4 => exact fit_Top_channel_4
  | 5 => exact fit_Top_channel_5
  | 6 => exact fit_Top_channel_6
  | 7 => exact fit_Top_channel_7
  | 8 => exact fit_Top_channel_8
  | 9 => exact fit_Top_channel_9
  | n + 10 => rfl
theorem fitM_Top_op : sm_FitM kTop_op := by
  show ∀ b, sm_fit (lt_R kTop_op) (lt_n kTop_op) (lt_fl kTop_op).1 (lt_fl kTop_op).2 (lt_r kTop_op) (lt_b kTop_op) pc_Top_op (pc_Top_op b) (cd_Top_op b) = true
  intro b
  match b with
  | 0 => exact fit_Top_op_0
  | 1 => exact fit_Top_op_1
  | 2 => exact fit_Top_op_2
  | 3 => exact fit_Top_op_3
  | 4 => exact fit_Top_op_4
  | 5 => exact fit_Top_op_5
  | 6 => exact fit_Top_op_6
  | n + 7 => rfl
theorem fitM_Top_unop : sm_FitM kTop_unop := by
  show ∀ b, sm_fit (lt_R kTop_unop) (lt_n kTop_unop) (lt_fl kTop_unop).1 (lt_fl kTop_unop).2 (lt_r kTop_unop) (lt_b kTop_unop) pc_Top_unop (pc_Top_unop b) (cd_Top_unop b) = true
  intro b
  match b with
  | 0 => exact fit_Top_unop_0
  | 1 => exact fit_Top_unop_1
  | 2 => exact fit_Top_unop_2
  | 3 => exact fit_Top_unop_3
  | 4 => exact fit_Top_unop_4
  | n + 5 => rfl
theorem fitM_Top_check : sm_FitM kTop_check := by
  show ∀ b, sm_fit (lt_R kTop_check) (lt_n kTop_check) (lt_fl kTop_check).1 (lt_fl kTop_check).2 (lt_r kTop_check) (lt_b kTop_check) pc_Top_check (pc_Top_check b) (cd_Top_check b) = true
  intro b
  match b with
  | 0 => exact fit_Top_check_0
  | 1 => exact fit_Top_check_1
  | 2 => exact fit_Top_check_2
  | n + 3 => rfl
theorem fitM_Top_error : sm_FitM kTop_error := by
  show ∀ b, sm_fit (lt_R kTop_error) (lt_n kTop_error) (lt_fl kTop_error).1 (lt_fl kTop_error).2 (lt_r kTop_error) (lt_b kTop_error) pc_Top_error (pc_Top_error b) (cd_Top_error b) = true
  intro b
  match b with
  | 0 => exact fit_Top_error_0
  | 1 => exact fit_Top_error_1
  | 2 => exact fit_Top_error_2
  | n + 3 => rfl
theorem fitM_Top_borrower : sm_FitM kTop_borrower := by
  show ∀ b, sm_fit (lt_R kTop_borrower) (lt_n kTop_borrower) (lt_fl kTop_borrower).1 (lt_fl kTop_borrower).2 (lt_r kTop_borrower) (lt_b kTop_borrower) pc_Top_borrower (pc_Top_borrower b) (cd_Top_borrower b) = true
  intro b
  match b with
  | 0 => exact fit_Top_borrower_0
  | 1 => exact fit_Top_borrower_1
  | 2 => exact fit_Top_borrower_2
  | 3 => exact fit_Top_borrower_3
  | 4 => exact fit_Top_borrower_4
  | n + 5 => rfl
theorem fitM_Top_holds : sm_FitM kTop_holds := by
  show ∀ b, sm_fit (lt_R kTop_holds) (lt_n kTop_holds) (lt_fl kTop_holds).1 (lt_fl kTop_holds).2 (lt_r kTop_holds) (lt_b kTop_holds) pc_Top_holds (pc_Top_holds b) (cd_Top_holds b) = true
  intro b
  match b with
  | 0 => exact fit_Top_holds_0
  | 1 => exact fit_Top_holds_1
  | 2 => exact fit_Top_holds_2
  | 3 => exact fit_Top_holds_3
  | 4 => exact fit_Top_holds_4
  | 5 => exact fit_Top_holds_5
  | 6 => exact fit_Top_holds_6
  | n + 7 => rfl
theorem fitM_Top_at : sm_FitM kTop_at := by
  show ∀ b, sm_fit (lt_R kTop_at) (lt_n kTop_at) (lt_fl kTop_at).1 (lt_fl kTop_at).2 (lt_r kTop_at) (lt_b kTop_at) pc_Top_at (pc_Top_at b) (cd_Top_at b) = true
  intro b
  match b with
  | 0 => exact fit_Top_at_0
  | 1 => exact fit_Top_at_1
  | 2 => exact fit_Top_at_2
  | 3 => exact fit_Top_at_3
  | 4 => exact fit_Top_at_4
  | 5 => exact fit_Top_at_5
  | 6 => exact fit_Top_at_6
  | n + 7 => rfl
theorem fitM_Top_lives : sm_FitM kTop_lives := by
  show ∀ b, sm_fit (lt_R kTop_lives) (lt_n kTop_lives) (lt_fl kTop_lives).1 (lt_fl kTop_lives).2 (lt_r kTop_lives) (lt_b kTop_lives) pc_Top_lives (pc_Top_lives b) (cd_Top_lives b) = true
  intro b
  match b with
  | 0 => exact fit_Top_lives_0
  | 1 => exact fit_Top_lives_1
  | 2 => exact fit_Top_lives_2
  | n + 3 => rfl
theorem fitM_Top_stuck : sm_FitM kTop_stuck := by
  show ∀ b, sm_fit (lt_R kTop_stuck) (lt_n kTop_stuck) (lt_fl kTop_stuck).1 (lt_fl kTop_stuck).2 (lt_r kTop_stuck) (lt_b kTop_stuck) pc_Top_stuck (pc_Top_stuck b) (cd_Top_stuck b) = true
  intro b
  match b with
  | 0 => exact fit_Top_stuck_0
  | 1 => exact fit_Top_stuck_1
  | 2 => exact fit_Top_stuck_2
  | 3 => exact fit_Top_stuck_3
  | 4 => exact fit_Top_stuck_4
  | 5 => exact fit_Top_stuck_5
  | n + 6 => rfl
theorem fitM_Top_begin : sm_FitM kTop_begin := by
  show ∀ b, sm_fit (lt_R kTop_begin) (lt_n kTop_begin) (lt_fl kTop_begin).1 (lt_fl kTop_begin).2 (lt_r kTop_begin) (lt_b kTop_begin) pc_Top_begin (pc_Top_begin b) (cd_Top_begin b) = true
  intro b
  match b with
  | 0 => exact fit_Top_begin_0
  | n + 1 => rfl
theorem fitM_Top_go : sm_FitM kTop_go := by
  show ∀ b, sm_fit (lt_R kTop_go) (lt_n kTop_go) (lt_fl kTop_go).1 (lt_fl kTop_go).2 (lt_r kTop_go) (lt_b kTop_go) pc_Top_go (pc_Top_go b) (cd_Top_go b) = true
  intro b
  match b with
  | 0 => exact fit_Top_go_0
  | 1 => exact fit_Top_go_1
  | 2 => exact fit_Top_go_2
  | 3 => exact fit_Top_go_3
  | 4 => exact fit_Top_go_4
  | 5 => exact fit_Top_go_5
  | n + 6 => rfl
theorem fitM_Top_run : sm_FitM kTop_run := by
  show ∀ b, sm_fit (lt_R kTop_run) (lt_n kTop_run) (lt_fl kTop_run).1 (lt_fl kTop_run).2 (lt_r kTop_run) (lt_b kTop_run) pc_Top_run (pc_Top_run b) (cd_Top_run b) = true
  intro b
  match b with
  | 0 => exact fit_Top_run_0
  | 1 => exact fit_Top_run_1
  | 2 => exact fit_Top_run_2
  | 3 => exact fit_Top_run_3
  | 4 => exact fit_Top_run_4
  | 5 => exact fit_Top_run_5
  | n + 6 => rfl
theorem fitM_Top_state : sm_FitM kTop_state := by
  show ∀ b, sm_fit (lt_R kTop_state) (lt_n kTop_state) (lt_fl kTop_state).1 (lt_fl kTop_state).2 (lt_r kTop_state) (lt_b kTop_state) pc_Top_state (pc_Top_state b) (cd_Top_state b) = true
  intro b
  match b with
  | 0 => exact fit_Top_state_0
  | 1 => exact fit_Top_state_1
  | 2 => exact fit_Top_state_2
  | 3 => exact fit_Top_state_3
  | 4 => exact fit_Top_state_4
  | n + 5 => rfl
theorem fitM_Top_fault : sm_FitM kTop_fault := by
  show ∀ b, sm_fit (lt_R kTop_fault) (lt_n kTop_fault) (lt_fl kTop_fault).1 (lt_fl kTop_fault).2 (lt_r kTop_fault) (lt_b kTop_fault) pc_Top_fault (pc_Top_fault b) (cd_Top_fault b) = true
  intro b
  match b with
  | 0 => exact fit_Top_fault_0
  | 1 => exact fit_Top_fault_1
  | 2 => exact fit_Top_fault_2
  | 3 => exact fit_Top_fault_3
  | 4 => exact fit_Top_fault_4
  | n + 5 => rfl
theorem fitM_Top_place : sm_FitM kTop_place := by
  show ∀ b, sm_fit (lt_R kTop_place) (lt_n kTop_place) (lt_fl kTop_place).1 (lt_fl kTop_place).2 (lt_r kTop_place) (lt_b kTop_place) pc_Top_place (pc_Top_place b) (cd_Top_place b) = true
  intro b
  match b with
  | 0 => exact fit_Top_place_0
  | 1 => exact fit_Top_place_1
  | 2 => exact fit_Top_place_2
  | 3 => exact fit_Top_place_3
  | 4 => exact fit_Top_place_4
  | n + 5 => rfl
theorem fitM_Top_value : sm_FitM kTop_value := by
  show ∀ b, sm_fit (lt_R kTop_value) (lt_n kTop_value) (lt_fl kTop_value).1 (lt_fl kTop_value).2 (lt_r kTop_value) (lt_b kTop_value) pc_Top_value (pc_Top_value b) (cd_Top_value b) = true
  intro b
  match b with
  | 0 => exact fit_Top_value_0
  | 1 => exact fit_Top_value_1
  | 2 => exact fit_Top_value_2
  | 3 => exact fit_Top_value_3
  | 4 => exact fit_Top_value_4
  | 5 => exact fit_Top_value_5
  | n + 6 => rfl
theorem fitM_Top_waiting : sm_FitM kTop_waiting := by
  show ∀ b, sm_fit (lt_R kTop_waiting) (lt_n kTop_waiting) (lt_fl kTop_waiting).1 (lt_fl kTop_waiting).2 (lt_r kTop_waiting) (lt_b kTop_waiting) pc_Top_waiting (pc_Top_waiting b) (cd_Top_waiting b) = true
  intro b
  match b with
  | 0 => exact fit_Top_waiting_0
  | 1 => exact fit_Top_waiting_1
  | 2 => exact fit_Top_waiting_2
  | 3 => exact fit_Top_waiting_3
  | 4 => exact fit_Top_waiting_4
  | 5 => exact fit_Top_waiting_5
  | n + 6 => rfl
theorem fitM_Top_made : sm_FitM kTop_made := by
  show ∀ b, sm_fit (lt_R kTop_made) (lt_n kTop_made) (lt_fl kTop_made).1 (lt_fl kTop_made).2 (lt_r kTop_made) (lt_b kTop_made) pc_Top_made (pc_Top_made b) (cd_Top_made b) = true
  intro b
  match b with
  | 0 => exact fit_Top_made_0
  | n + 1 => rfl
theorem fitM_Top_drops : sm_FitM kTop_drops := by
  show ∀ b, sm_fit (lt_R kTop_drops) (lt_n kTop_drops) (lt_fl kTop_drops).1 (lt_fl kTop_drops).2 (lt_r kTop_drops) (lt_b kTop_drops) pc_Top_drops (pc_Top_drops b) (cd_Top_drops b) = true
  intro b
  match b with
  | 0 => exact fit_Top_drops_0
  | n + 1 => rfl
theorem fitM_Top_dropped : sm_FitM kTop_dropped := by
  show ∀ b, sm_fit (lt_R kTop_dropped) (lt_n kTop_dropped) (lt_fl kTop_dropped).1 (lt_fl kTop_dropped).2 (lt_r kTop_dropped) (lt_b kTop_dropped) pc_Top_dropped (pc_Top_dropped b) (cd_Top_dropped b) = true
  intro b
  match b with
  | 0 => exact fit_Top_dropped_0
  | 1 => exact fit_Top_dropped_1
  | 2 => exact fit_Top_dropped_2
  | n + 3 => rfl
theorem fitM_Top_forget : sm_FitM kTop_forget := by
  show ∀ b, sm_fit (lt_R kTop_forget) (lt_n kTop_forget) (lt_fl kTop_forget).1 (lt_fl kTop_forget).2 (lt_r kTop_forget) (lt_b kTop_forget) pc_Top_forget (pc_Top_forget b) (cd_Top_forget b) = true
  intro b
  match b with
  | 0 => exact fit_Top_forget_0
  | n + 1 => rfl
theorem fitM_Top_isAhead : sm_FitM kTop_isAhead := by
  show ∀ b, sm_fit (lt_R kTop_isAhead) (lt_n kTop_isAhead) (lt_fl kTop_isAhead).1 (lt_fl kTop_isAhead).2 (lt_r kTop_isAhead) (lt_b kTop_isAhead) pc_Top_isAhead (pc_Top_isAhead b) (cd_Top_isAhead b) = true
  intro b
  match b with
  | 0 => exact fit_Top_isAhead_0
  | 1 => exact fit_Top_isAhead_1
  | 2 => exact fit_Top_isAhead_2
  | 3 => exact fit_Top_isAhead_3
  | 4 => exact fit_Top_isAhead_4
  | n + 5 => rfl
theorem fitM_Top_within : sm_FitM kTop_within := by
  show ∀ b, sm_fit (lt_R kTop_within) (lt_n kTop_within) (lt_fl kTop_within).1 (lt_fl kTop_within).2 (lt_r kTop_within) (lt_b kTop_within) pc_Top_within (pc_Top_within b) (cd_Top_within b) = true
  intro b
  match b with
  | 0 => exact fit_Top_within_0
  | 1 => exact fit_Top_within_1
  | 2 => exact fit_Top_within_2
  | 3 => exact fit_Top_within_3
  | 4 => exact fit_Top_within_4
  | n + 5 => rfl
theorem fitM_Model_thrown : sm_FitM kModel_thrown := by
  show ∀ b, sm_fit (lt_R kModel_thrown) (lt_n kModel_thrown) (lt_fl kModel_thrown).1 (lt_fl kModel_thrown).2 (lt_r kModel_thrown) (lt_b kModel_thrown) pc_Model_thrown (pc_Model_thrown b) (cd_Model_thrown b) = true
  intro b
  match b with
  | 0 => exact fit_Model_thrown_0
  | n + 1 => rfl
theorem fitM_Model_in : sm_FitM kModel_in := by
  show ∀ b, sm_fit (lt_R kModel_in) (lt_n kModel_in) (lt_fl kModel_in).1 (lt_fl kModel_in).2 (lt_r kModel_in) (lt_b kModel_in) pc_Model_in (pc_Model_in b) (cd_Model_in b) = true
  intro b
  match b with
  | 0 => exact fit_Model_in_0
  | 1 => exact fit_Model_in_1
  | 2 => exact fit_Model_in_2
  | 3 => exact fit_Model_in_3
  | 4 => exact fit_Model_in_4
  | n + 5 => rfl
theorem fitM_Model_isThird : sm_FitM kModel_isThird := by
  show ∀ b, sm_fit (lt_R kModel_isThird) (lt_n kModel_isThird) (lt_fl kModel_isThird).1 (lt_fl kModel_isThird).2 (lt_r kModel_isThird) (lt_b kModel_isThird) pc_Model_isThird (pc_Model_isThird b) (cd_Model_isThird b) = true
  intro b
  match b with
  | 0 => exact fit_Model_isThird_0
  | n + 1 => rfl
theorem fitM_Model_step : sm_FitM kModel_step := by
  show ∀ b, sm_fit (lt_R kModel_step) (lt_n kModel_step) (lt_fl kModel_step).1 (lt_fl kModel_step).2 (lt_r kModel_step) (lt_b kModel_step) pc_Model_step (pc_Model_step b) (cd_Model_step b) = true
  intro b
  match b with
  | 0 => exact fit_Model_step_0
  | 1 => exact fit_Model_step_1
  | 2 => exact fit_Model_step_2
  | 3 => exact fit_Model_step_3
  | 4 => exact fit_Model_step_4
  | 5 => exact fit_Model_step_5
  | 6 => exact fit_Model_step_6
  | 7 => exact fit_Model_step_7
  | 8 => exact fit_Model_step_8
  | 9 => exact fit_Model_step_9
  | 10 => exact fit_Model_step_10
  | 11 => exact fit_Model_step_11
  | 12 => exact fit_Model_step_12
  | 13 => exact fit_Model_step_13
  | 14 => exact fit_Model_step_14
  | 15 => exact fit_Model_step_15
  | 16 => exact fit_Model_step_16
  | 17 => exact fit_Model_step_17
  | 18 => exact fit_Model_step_18
  | 19 => exact fit_Model_step_19
  | 20 => exact fit_Model_step_20
  | 21 => exact fit_Model_step_21
  | 22 => exact fit_Model_step_22
  | 23 => exact fit_Model_step_23
  | 24 => exact fit_Model_step_24
  | 25 => exact fit_Model_step_25
  | 26 => exact fit_Model_step_26
  | n + 27 => rfl
theorem fitM_Model_goesBeyond : sm_FitM kModel_goesBeyond := by
  show ∀ b, sm_fit (lt_R kModel_goesBeyond) (lt_n kModel_goesBeyond) (lt_fl kModel_goesBeyond).1 (lt_fl kModel_goesBeyond).2 (lt_r kModel_goesBeyond) (lt_b kModel_goesBeyond) pc_Model_goesBeyond (pc_Model_goesBeyond b) (cd_Model_goesBeyond b) = true
  intro b
  match b with
  | 0 => exact fit_Model_goesBeyond_0
  | 1 => exact fit_Model_goesBeyond_1
  | 2 => exact fit_Model_goesBeyond_2
  | 3 => exact fit_Model_goesBeyond_3
  | 4 => exact fit_Model_goesBeyond_4
  | 5 => exact fit_Model_goesBeyond_5
  | 6 => exact fit_Model_goesBeyond_6
  | 7 => exact fit_Model_goesBeyond_7
  | 8 => exact fit_Model_goesBeyond_8
  | 9 => exact fit_Model_goesBeyond_9
  | 10 => exact fit_Model_goesBeyond_10
  | 11 => exact fit_Model_goesBeyond_11
  | n + 12 => rfl
theorem fitM_Model_channel : sm_FitM kModel_channel := by
  show ∀ b, sm_fit (lt_R kModel_channel) (lt_n kModel_channel) (lt_fl kModel_channel).1 (lt_fl kModel_channel).2 (lt_r kModel_channel) (lt_b kModel_channel) pc_Model_channel (pc_Model_channel b) (cd_Model_channel b) = true
  intro b
  match b with
  | 0 => exact fit_Model_channel_0
  | 1 => exact fit_Model_channel_1
  | 2 => exact fit_Model_channel_2
  | 3 => exact fit_Model_channel_3
  | 4 => exact fit_Model_channel_4
  | 5 => exact fit_Model_channel_5
  | 6 => exact fit_Model_channel_6
  | 7 => exact fit_Model_channel_7
  | 8 => exact fit_Model_channel_8
  | 9 => exact fit_Model_channel_9
  | 10 => exact fit_Model_channel_10
  | 11 => exact fit_Model_channel_11
  | 12 => exact fit_Model_channel_12
  | 13 => exact fit_Model_channel_13
  | 14 => exact fit_Model_channel_14
  | 15 => exact fit_Model_channel_15
  | 16 => exact fit_Model_channel_16
  | n + 17 => rfl
theorem fitM_Model_changed : sm_FitM kModel_changed := by
  show ∀ b, sm_fit (lt_R kModel_changed) (lt_n kModel_changed) (lt_fl kModel_changed).1 (lt_fl kModel_changed).2 (lt_r kModel_changed) (lt_b kModel_changed) pc_Model_changed (pc_Model_changed b) (cd_Model_changed b) = true
  intro b
  match b with
  | 0 => exact fit_Model_changed_0
  | n + 1 => rfl
theorem fitM_Model_isOp : sm_FitM kModel_isOp := by
  show ∀ b, sm_fit (lt_R kModel_isOp) (lt_n kModel_isOp) (lt_fl kModel_isOp).1 (lt_fl kModel_isOp).2 (lt_r kModel_isOp) (lt_b kModel_isOp) pc_Model_isOp (pc_Model_isOp b) (cd_Model_isOp b) = true
  intro b
  match b with
  | 0 => exact fit_Model_isOp_0
  | 1 => exact fit_Model_isOp_1
  | 2 => exact fit_Model_isOp_2
  | 3 => exact fit_Model_isOp_3
  | 4 => exact fit_Model_isOp_4
  | 5 => exact fit_Model_isOp_5
  | 6 => exact fit_Model_isOp_6
  | 7 => exact fit_Model_isOp_7
  | 8 => exact fit_Model_isOp_8
  | 9 => exact fit_Model_isOp_9
  | 10 => exact fit_Model_isOp_10
  | 11 => exact fit_Model_isOp_11
  | 12 => exact fit_Model_isOp_12
  | 13 => exact fit_Model_isOp_13
  | 14 => exact fit_Model_isOp_14
  | 15 => exact fit_Model_isOp_15
  | 16 => exact fit_Model_isOp_16
  | 17 => exact fit_Model_isOp_17
  | 18 => exact fit_Model_isOp_18
  | 19 => exact fit_Model_isOp_19
  | 20 => exact fit_Model_isOp_20
  | 21 => exact fit_Model_isOp_21
  | 22 => exact fit_Model_isOp_22
  | 23 => exact fit_Model_isOp_23
  | 24 => exact fit_Model_isOp_24
  | n + 25 => rfl
theorem fitM_Model_op : sm_FitM kModel_op := by
  show ∀ b, sm_fit (lt_R kModel_op) (lt_n kModel_op) (lt_fl kModel_op).1 (lt_fl kModel_op).2 (lt_r kModel_op) (lt_b kModel_op) pc_Model_op (pc_Model_op b) (cd_Model_op b) = true
  intro b
  match b with
  | 0 => exact fit_Model_op_0
  | 1 => exact fit_Model_op_1
  | 2 => exact fit_Model_op_2
  | 3 => exact fit_Model_op_3
  | 4 => exact fit_Model_op_4
  | 5 => exact fit_Model_op_5
  | 6 => exact fit_Model_op_6
  | 7 => exact fit_Model_op_7
  | 8 => exact fit_Model_op_8
  | 9 => exact fit_Model_op_9
  | n + 10 => rfl
theorem fitM_Model_unop : sm_FitM kModel_unop := by
  show ∀ b, sm_fit (lt_R kModel_unop) (lt_n kModel_unop) (lt_fl kModel_unop).1 (lt_fl kModel_unop).2 (lt_r kModel_unop) (lt_b kModel_unop) pc_Model_unop (pc_Model_unop b) (cd_Model_unop b) = true
  intro b
  match b with
  | 0 => exact fit_Model_unop_0
  | 1 => exact fit_Model_unop_1
  | 2 => exact fit_Model_unop_2
  | 3 => exact fit_Model_unop_3
  | 4 => exact fit_Model_unop_4
  | 5 => exact fit_Model_unop_5
  | 6 => exact fit_Model_unop_6
  | 7 => exact fit_Model_unop_7
  | n + 8 => rfl
theorem fitM_Model_usedBy : sm_FitM kModel_usedBy := by
  show ∀ b, sm_fit (lt_R kModel_usedBy) (lt_n kModel_usedBy) (lt_fl kModel_usedBy).1 (lt_fl kModel_usedBy).2 (lt_r kModel_usedBy) (lt_b kModel_usedBy) pc_Model_usedBy (pc_Model_usedBy b) (cd_Model_usedBy b) = true
  intro b
  match b with
  | 0 => exact fit_Model_usedBy_0
  | 1 => exact fit_Model_usedBy_1
  | 2 => exact fit_Model_usedBy_2
  | 3 => exact fit_Model_usedBy_3
  | n + 4 => rfl
theorem fitM_Model_targetOf : sm_FitM kModel_targetOf := by
  show ∀ b, sm_fit (lt_R kModel_targetOf) (lt_n kModel_targetOf) (lt_fl kModel_targetOf).1 (lt_fl kModel_targetOf).2 (lt_r kModel_targetOf) (lt_b kModel_targetOf) pc_Model_targetOf (pc_Model_targetOf b) (cd_Model_targetOf b) = true
  intro b
  match b with
  | 0 => exact fit_Model_targetOf_0
  | 1 => exact fit_Model_targetOf_1
  | 2 => exact fit_Model_targetOf_2
  | 3 => exact fit_Model_targetOf_3
  | n + 4 => rfl
theorem fitM_Model_isOf : sm_FitM kModel_isOf := by
  show ∀ b, sm_fit (lt_R kModel_isOf) (lt_n kModel_isOf) (lt_fl kModel_isOf).1 (lt_fl kModel_isOf).2 (lt_r kModel_isOf) (lt_b kModel_isOf) pc_Model_isOf (pc_Model_isOf b) (cd_Model_isOf b) = true
  intro b
  match b with
  | 0 => exact fit_Model_isOf_0
  | 1 => exact fit_Model_isOf_1
  | 2 => exact fit_Model_isOf_2
  | 3 => exact fit_Model_isOf_3
  | 4 => exact fit_Model_isOf_4
  | 5 => exact fit_Model_isOf_5
  | n + 6 => rfl
theorem fitM_Model_stepFor : sm_FitM kModel_stepFor := by
  show ∀ b, sm_fit (lt_R kModel_stepFor) (lt_n kModel_stepFor) (lt_fl kModel_stepFor).1 (lt_fl kModel_stepFor).2 (lt_r kModel_stepFor) (lt_b kModel_stepFor) pc_Model_stepFor (pc_Model_stepFor b) (cd_Model_stepFor b) = true
  intro b
  match b with
  | 0 => exact fit_Model_stepFor_0
  | 1 => exact fit_Model_stepFor_1
  | 2 => exact fit_Model_stepFor_2
  | 3 => exact fit_Model_stepFor_3
  | 4 => exact fit_Model_stepFor_4
  | n + 5 => rfl
theorem fitM_Model_stepKind : sm_FitM kModel_stepKind := by
  show ∀ b, sm_fit (lt_R kModel_stepKind) (lt_n kModel_stepKind) (lt_fl kModel_stepKind).1 (lt_fl kModel_stepKind).2 (lt_r kModel_stepKind) (lt_b kModel_stepKind) pc_Model_stepKind (pc_Model_stepKind b) (cd_Model_stepKind b) = true
  intro b
  match b with
  | 0 => exact fit_Model_stepKind_0
  | n + 1 => rfl
theorem fitM_Model_stepThen : sm_FitM kModel_stepThen := by
  show ∀ b, sm_fit (lt_R kModel_stepThen) (lt_n kModel_stepThen) (lt_fl kModel_stepThen).1 (lt_fl kModel_stepThen).2 (lt_r kModel_stepThen) (lt_b kModel_stepThen) pc_Model_stepThen (pc_Model_stepThen b) (cd_Model_stepThen b) = true
  intro b
  match b with
  | 0 => exact fit_Model_stepThen_0
  | 1 => exact fit_Model_stepThen_1
  | 2 => exact fit_Model_stepThen_2
  | 3 => exact fit_Model_stepThen_3
  | 4 => exact fit_Model_stepThen_4
  | n + 5 => rfl
theorem fitM_Model_needs : sm_FitM kModel_needs := by
  show ∀ b, sm_fit (lt_R kModel_needs) (lt_n kModel_needs) (lt_fl kModel_needs).1 (lt_fl kModel_needs).2 (lt_r kModel_needs) (lt_b kModel_needs) pc_Model_needs (pc_Model_needs b) (cd_Model_needs b) = true
  intro b
  match b with
  | 0 => exact fit_Model_needs_0
  | 1 => exact fit_Model_needs_1
  | 2 => exact fit_Model_needs_2
  | 3 => exact fit_Model_needs_3
  | 4 => exact fit_Model_needs_4
  | 5 => exact fit_Model_needs_5
  | 6 => exact fit_Model_needs_6
  | 7 => exact fit_Model_needs_7
  | 8 => exact fit_Model_needs_8
  | 9 => exact fit_Model_needs_9
  | n + 10 => rfl
theorem fitM_Model_next : sm_FitM kModel_next := by
  show ∀ b, sm_fit (lt_R kModel_next) (lt_n kModel_next) (lt_fl kModel_next).1 (lt_fl kModel_next).2 (lt_r kModel_next) (lt_b kModel_next) pc_Model_next (pc_Model_next b) (cd_Model_next b) = true
  intro b
  match b with
  | 0 => exact fit_Model_next_0
  | 1 => exact fit_Model_next_1
  | 2 => exact fit_Model_next_2
  | 3 => exact fit_Model_next_3
  | 4 => exact fit_Model_next_4
  | 5 => exact fit_Model_next_5
  | 6 => exact fit_Model_next_6
  | 7 => exact fit_Model_next_7
  | n + 8 => rfl
theorem fitM_Model_hasOther : sm_FitM kModel_hasOther := by
  show ∀ b, sm_fit (lt_R kModel_hasOther) (lt_n kModel_hasOther) (lt_fl kModel_hasOther).1 (lt_fl kModel_hasOther).2 (lt_r kModel_hasOther) (lt_b kModel_hasOther) pc_Model_hasOther (pc_Model_hasOther b) (cd_Model_hasOther b) = true
  intro b
  match b with
  | 0 => exact fit_Model_hasOther_0
  | 1 => exact fit_Model_hasOther_1
  | 2 => exact fit_Model_hasOther_2
  | 3 => exact fit_Model_hasOther_3
  | 4 => exact fit_Model_hasOther_4
  | n + 5 => rfl
theorem fitM_Model_isStop : sm_FitM kModel_isStop := by
  show ∀ b, sm_fit (lt_R kModel_isStop) (lt_n kModel_isStop) (lt_fl kModel_isStop).1 (lt_fl kModel_isStop).2 (lt_r kModel_isStop) (lt_b kModel_isStop) pc_Model_isStop (pc_Model_isStop b) (cd_Model_isStop b) = true
  intro b
  match b with
  | 0 => exact fit_Model_isStop_0
  | 1 => exact fit_Model_isStop_1
  | 2 => exact fit_Model_isStop_2
  | 3 => exact fit_Model_isStop_3
  | 4 => exact fit_Model_isStop_4
  | n + 5 => rfl
theorem fitM_Model_isOwner : sm_FitM kModel_isOwner := by
  show ∀ b, sm_fit (lt_R kModel_isOwner) (lt_n kModel_isOwner) (lt_fl kModel_isOwner).1 (lt_fl kModel_isOwner).2 (lt_r kModel_isOwner) (lt_b kModel_isOwner) pc_Model_isOwner (pc_Model_isOwner b) (cd_Model_isOwner b) = true
  intro b
  match b with
  | 0 => exact fit_Model_isOwner_0
  | n + 1 => rfl
theorem fitM_Model_together : sm_FitM kModel_together := by
  show ∀ b, sm_fit (lt_R kModel_together) (lt_n kModel_together) (lt_fl kModel_together).1 (lt_fl kModel_together).2 (lt_r kModel_together) (lt_b kModel_together) pc_Model_together (pc_Model_together b) (cd_Model_together b) = true
  intro b
  match b with
  | 0 => exact fit_Model_together_0
  | 1 => exact fit_Model_together_1
  | 2 => exact fit_Model_together_2
  | 3 => exact fit_Model_together_3
  | 4 => exact fit_Model_together_4
  | 5 => exact fit_Model_together_5
  | 6 => exact fit_Model_together_6
  | 7 => exact fit_Model_together_7
  | 8 => exact fit_Model_together_8
  | 9 => exact fit_Model_together_9
  | 10 => exact fit_Model_together_10
  | 11 => exact fit_Model_together_11
  | 12 => exact fit_Model_together_12
  | 13 => exact fit_Model_together_13
  | n + 14 => rfl
theorem fitM_Model_comesTo : sm_FitM kModel_comesTo := by
  show ∀ b, sm_fit (lt_R kModel_comesTo) (lt_n kModel_comesTo) (lt_fl kModel_comesTo).1 (lt_fl kModel_comesTo).2 (lt_r kModel_comesTo) (lt_b kModel_comesTo) pc_Model_comesTo (pc_Model_comesTo b) (cd_Model_comesTo b) = true
  intro b
  match b with
  | 0 => exact fit_Model_comesTo_0
  | 1 => exact fit_Model_comesTo_1
  | 2 => exact fit_Model_comesTo_2
  | 3 => exact fit_Model_comesTo_3
  | 4 => exact fit_Model_comesTo_4
  | 5 => exact fit_Model_comesTo_5
  | 6 => exact fit_Model_comesTo_6
  | 7 => exact fit_Model_comesTo_7
  | 8 => exact fit_Model_comesTo_8
  | 9 => exact fit_Model_comesTo_9
  | 10 => exact fit_Model_comesTo_10
  | 11 => exact fit_Model_comesTo_11
  | 12 => exact fit_Model_comesTo_12
  | 13 => exact fit_Model_comesTo_13
  | 14 => exact fit_Model_comesTo_14
  | n + 15 => rfl
theorem fitM_Model_moves : sm_FitM kModel_moves := by
  show ∀ b, sm_fit (lt_R kModel_moves) (lt_n kModel_moves) (lt_fl kModel_moves).1 (lt_fl kModel_moves).2 (lt_r kModel_moves) (lt_b kModel_moves) pc_Model_moves (pc_Model_moves b) (cd_Model_moves b) = true
  intro b
  match b with
  | 0 => exact fit_Model_moves_0
  | 1 => exact fit_Model_moves_1
  | 2 => exact fit_Model_moves_2
  | 3 => exact fit_Model_moves_3
  | 4 => exact fit_Model_moves_4
  | 5 => exact fit_Model_moves_5
  | 6 => exact fit_Model_moves_6
  | n + 7 => rfl
theorem fitM_Model_does : sm_FitM kModel_does := by
  show ∀ b, sm_fit (lt_R kModel_does) (lt_n kModel_does) (lt_fl kModel_does).1 (lt_fl kModel_does).2 (lt_r kModel_does) (lt_b kModel_does) pc_Model_does (pc_Model_does b) (cd_Model_does b) = true
  intro b
  match b with
  | 0 => exact fit_Model_does_0
  | 1 => exact fit_Model_does_1
  | 2 => exact fit_Model_does_2
  | 3 => exact fit_Model_does_3
  | 4 => exact fit_Model_does_4
  | 5 => exact fit_Model_does_5
  | 6 => exact fit_Model_does_6
  | 7 => exact fit_Model_does_7
  | 8 => exact fit_Model_does_8
  | 9 => exact fit_Model_does_9
  | 10 => exact fit_Model_does_10
  | 11 => exact fit_Model_does_11
  | 12 => exact fit_Model_does_12
  | 13 => exact fit_Model_does_13
  | 14 => exact fit_Model_does_14
  | 15 => exact fit_Model_does_15
  | 16 => exact fit_Model_does_16
  | 17 => exact fit_Model_does_17
  | 18 => exact fit_Model_does_18
  | 19 => exact fit_Model_does_19
  | 20 => exact fit_Model_does_20
  | 21 => exact fit_Model_does_21
  | 22 => exact fit_Model_does_22
  | 23 => exact fit_Model_does_23
  | 24 => exact fit_Model_does_24
  | 25 => exact fit_Model_does_25
  | 26 => exact fit_Model_does_26
  | 27 => exact fit_Model_does_27
  | 28 => exact fit_Model_does_28
  | 29 => exact fit_Model_does_29
  | 30 => exact fit_Model_does_30
  | 31 => exact fit_Model_does_31
  | 32 => exact fit_Model_does_32
  | 33 => exact fit_Model_does_33
  | 34 => exact fit_Model_does_34
  | 35 => exact fit_Model_does_35
  | 36 => exact fit_Model_does_36
  | 37 => exact fit_Model_does_37
  | 38 => exact fit_Model_does_38
  | n + 39 => rfl
theorem fitM_Model_goesOn : sm_FitM kModel_goesOn := by
  show ∀ b, sm_fit (lt_R kModel_goesOn) (lt_n kModel_goesOn) (lt_fl kModel_goesOn).1 (lt_fl kModel_goesOn).2 (lt_r kModel_goesOn) (lt_b kModel_goesOn) pc_Model_goesOn (pc_Model_goesOn b) (cd_Model_goesOn b) = true
  intro b
  match b with
  | 0 => exact fit_Model_goesOn_0
  | 1 => exact fit_Model_goesOn_1
  | 2 => exact fit_Model_goesOn_2
  | 3 => exact fit_Model_goesOn_3
  | 4 => exact fit_Model_goesOn_4
  | 5 => exact fit_Model_goesOn_5
  | 6 => exact fit_Model_goesOn_6
  | n + 7 => rfl
theorem fitM_Model_livesBehind : sm_FitM kModel_livesBehind := by
  show ∀ b, sm_fit (lt_R kModel_livesBehind) (lt_n kModel_livesBehind) (lt_fl kModel_livesBehind).1 (lt_fl kModel_livesBehind).2 (lt_r kModel_livesBehind) (lt_b kModel_livesBehind) pc_Model_livesBehind (pc_Model_livesBehind b) (cd_Model_livesBehind b) = true
  intro b
  match b with
  | 0 => exact fit_Model_livesBehind_0
  | 1 => exact fit_Model_livesBehind_1
  | 2 => exact fit_Model_livesBehind_2
  | 3 => exact fit_Model_livesBehind_3
  | 4 => exact fit_Model_livesBehind_4
  | 5 => exact fit_Model_livesBehind_5
  | n + 6 => rfl
theorem fitM_Model_findsLiving : sm_FitM kModel_findsLiving := by
  show ∀ b, sm_fit (lt_R kModel_findsLiving) (lt_n kModel_findsLiving) (lt_fl kModel_findsLiving).1 (lt_fl kModel_findsLiving).2 (lt_r kModel_findsLiving) (lt_b kModel_findsLiving) pc_Model_findsLiving (pc_Model_findsLiving b) (cd_Model_findsLiving b) = true
  intro b
  match b with
  | 0 => exact fit_Model_findsLiving_0
  | 1 => exact fit_Model_findsLiving_1
  | 2 => exact fit_Model_findsLiving_2
  | 3 => exact fit_Model_findsLiving_3
  | 4 => exact fit_Model_findsLiving_4
  | 5 => exact fit_Model_findsLiving_5
  | 6 => exact fit_Model_findsLiving_6
  | 7 => exact fit_Model_findsLiving_7
  | 8 => exact fit_Model_findsLiving_8
  | 9 => exact fit_Model_findsLiving_9
  | 10 => exact fit_Model_findsLiving_10
  | 11 => exact fit_Model_findsLiving_11
  | 12 => exact fit_Model_findsLiving_12
  | 13 => exact fit_Model_findsLiving_13
  | 14 => exact fit_Model_findsLiving_14
  | 15 => exact fit_Model_findsLiving_15
  | 16 => exact fit_Model_findsLiving_16
  | 17 => exact fit_Model_findsLiving_17
  | 18 => exact fit_Model_findsLiving_18
  | 19 => exact fit_Model_findsLiving_19
  | n + 20 => rfl
theorem fitM_Model_finds : sm_FitM kModel_finds := by
  show ∀ b, sm_fit (lt_R kModel_finds) (lt_n kModel_finds) (lt_fl kModel_finds).1 (lt_fl kModel_finds).2 (lt_r kModel_finds) (lt_b kModel_finds) pc_Model_finds (pc_Model_finds b) (cd_Model_finds b) = true
  intro b
  match b with
  | 0 => exact fit_Model_finds_0
  | 1 => exact fit_Model_finds_1
  | 2 => exact fit_Model_finds_2
  | 3 => exact fit_Model_finds_3
  | 4 => exact fit_Model_finds_4
  | 5 => exact fit_Model_finds_5
  | 6 => exact fit_Model_finds_6
  | 7 => exact fit_Model_finds_7
  | 8 => exact fit_Model_finds_8
  | 9 => exact fit_Model_finds_9
  | 10 => exact fit_Model_finds_10
  | 11 => exact fit_Model_finds_11
  | 12 => exact fit_Model_finds_12
  | 13 => exact fit_Model_finds_13
  | 14 => exact fit_Model_finds_14
  | 15 => exact fit_Model_finds_15
  | 16 => exact fit_Model_finds_16
  | 17 => exact fit_Model_finds_17
  | 18 => exact fit_Model_finds_18
  | 19 => exact fit_Model_finds_19
  | 20 => exact fit_Model_finds_20
  | n + 21 => rfl
theorem fitM_Model_findsAll : sm_FitM kModel_findsAll := by
  show ∀ b, sm_fit (lt_R kModel_findsAll) (lt_n kModel_findsAll) (lt_fl kModel_findsAll).1 (lt_fl kModel_findsAll).2 (lt_r kModel_findsAll) (lt_b kModel_findsAll) pc_Model_findsAll (pc_Model_findsAll b) (cd_Model_findsAll b) = true
  intro b
  match b with
  | 0 => exact fit_Model_findsAll_0
  | 1 => exact fit_Model_findsAll_1
  | 2 => exact fit_Model_findsAll_2
  | 3 => exact fit_Model_findsAll_3
  | 4 => exact fit_Model_findsAll_4
  | n + 5 => rfl
theorem fitM_Model_foundAt : sm_FitM kModel_foundAt := by
  show ∀ b, sm_fit (lt_R kModel_foundAt) (lt_n kModel_foundAt) (lt_fl kModel_foundAt).1 (lt_fl kModel_foundAt).2 (lt_r kModel_foundAt) (lt_b kModel_foundAt) pc_Model_foundAt (pc_Model_foundAt b) (cd_Model_foundAt b) = true
  intro b
  match b with
  | 0 => exact fit_Model_foundAt_0
  | n + 1 => rfl
theorem fitM_Model_borrowerOf : sm_FitM kModel_borrowerOf := by
  show ∀ b, sm_fit (lt_R kModel_borrowerOf) (lt_n kModel_borrowerOf) (lt_fl kModel_borrowerOf).1 (lt_fl kModel_borrowerOf).2 (lt_r kModel_borrowerOf) (lt_b kModel_borrowerOf) pc_Model_borrowerOf (pc_Model_borrowerOf b) (cd_Model_borrowerOf b) = true
  intro b
  match b with
  | 0 => exact fit_Model_borrowerOf_0
  | 1 => exact fit_Model_borrowerOf_1
  | 2 => exact fit_Model_borrowerOf_2
  | 3 => exact fit_Model_borrowerOf_3
  | 4 => exact fit_Model_borrowerOf_4
  | 5 => exact fit_Model_borrowerOf_5
  | 6 => exact fit_Model_borrowerOf_6
  | 7 => exact fit_Model_borrowerOf_7
  | 8 => exact fit_Model_borrowerOf_8
  | 9 => exact fit_Model_borrowerOf_9
  | 10 => exact fit_Model_borrowerOf_10
  | 11 => exact fit_Model_borrowerOf_11
  | 12 => exact fit_Model_borrowerOf_12
  | n + 13 => rfl
theorem fitM_Model_inTheWayOf : sm_FitM kModel_inTheWayOf := by
  show ∀ b, sm_fit (lt_R kModel_inTheWayOf) (lt_n kModel_inTheWayOf) (lt_fl kModel_inTheWayOf).1 (lt_fl kModel_inTheWayOf).2 (lt_r kModel_inTheWayOf) (lt_b kModel_inTheWayOf) pc_Model_inTheWayOf (pc_Model_inTheWayOf b) (cd_Model_inTheWayOf b) = true
  intro b
  match b with
  | 0 => exact fit_Model_inTheWayOf_0
  | 1 => exact fit_Model_inTheWayOf_1
  | 2 => exact fit_Model_inTheWayOf_2
  | 3 => exact fit_Model_inTheWayOf_3
  | 4 => exact fit_Model_inTheWayOf_4
  | 5 => exact fit_Model_inTheWayOf_5
  | 6 => exact fit_Model_inTheWayOf_6
  | 7 => exact fit_Model_inTheWayOf_7
  | 8 => exact fit_Model_inTheWayOf_8
  | 9 => exact fit_Model_inTheWayOf_9
  | 10 => exact fit_Model_inTheWayOf_10
  | 11 => exact fit_Model_inTheWayOf_11
  | 12 => exact fit_Model_inTheWayOf_12
  | 13 => exact fit_Model_inTheWayOf_13
  | 14 => exact fit_Model_inTheWayOf_14
  | 15 => exact fit_Model_inTheWayOf_15
  | 16 => exact fit_Model_inTheWayOf_16
  | 17 => exact fit_Model_inTheWayOf_17
  | 18 => exact fit_Model_inTheWayOf_18
  | 19 => exact fit_Model_inTheWayOf_19
  | 20 => exact fit_Model_inTheWayOf_20
  | 21 => exact fit_Model_inTheWayOf_21
  | 22 => exact fit_Model_inTheWayOf_22
  | n + 23 => rfl
theorem fitM_Model_isWrongUse : sm_FitM kModel_isWrongUse := by
  show ∀ b, sm_fit (lt_R kModel_isWrongUse) (lt_n kModel_isWrongUse) (lt_fl kModel_isWrongUse).1 (lt_fl kModel_isWrongUse).2 (lt_r kModel_isWrongUse) (lt_b kModel_isWrongUse) pc_Model_isWrongUse (pc_Model_isWrongUse b) (cd_Model_isWrongUse b) = true
  intro b
  match b with
  | 0 => exact fit_Model_isWrongUse_0
  | 1 => exact fit_Model_isWrongUse_1
  | 2 => exact fit_Model_isWrongUse_2
  | 3 => exact fit_Model_isWrongUse_3
  | 4 => exact fit_Model_isWrongUse_4
  | 5 => exact fit_Model_isWrongUse_5
  | 6 => exact fit_Model_isWrongUse_6
  | 7 => exact fit_Model_isWrongUse_7
  | 8 => exact fit_Model_isWrongUse_8
  | 9 => exact fit_Model_isWrongUse_9
  | 10 => exact fit_Model_isWrongUse_10
  | 11 => exact fit_Model_isWrongUse_11
  | n + 12 => rfl
theorem fitM_Model_errorOfEnd : sm_FitM kModel_errorOfEnd := by
  show ∀ b, sm_fit (lt_R kModel_errorOfEnd) (lt_n kModel_errorOfEnd) (lt_fl kModel_errorOfEnd).1 (lt_fl kModel_errorOfEnd).2 (lt_r kModel_errorOfEnd) (lt_b kModel_errorOfEnd) pc_Model_errorOfEnd (pc_Model_errorOfEnd b) (cd_Model_errorOfEnd b) = true
  intro b
  match b with
  | 0 => exact fit_Model_errorOfEnd_0
  | 1 => exact fit_Model_errorOfEnd_1
  | 2 => exact fit_Model_errorOfEnd_2
  | 3 => exact fit_Model_errorOfEnd_3
  | 4 => exact fit_Model_errorOfEnd_4
  | 5 => exact fit_Model_errorOfEnd_5
  | 6 => exact fit_Model_errorOfEnd_6
  | 7 => exact fit_Model_errorOfEnd_7
  | 8 => exact fit_Model_errorOfEnd_8
  | 9 => exact fit_Model_errorOfEnd_9
  | 10 => exact fit_Model_errorOfEnd_10
  | 11 => exact fit_Model_errorOfEnd_11
  | n + 12 => rfl
theorem fitM_Model_errorOf : sm_FitM kModel_errorOf := by
  show ∀ b, sm_fit (lt_R kModel_errorOf) (lt_n kModel_errorOf) (lt_fl kModel_errorOf).1 (lt_fl kModel_errorOf).2 (lt_r kModel_errorOf) (lt_b kModel_errorOf) pc_Model_errorOf (pc_Model_errorOf b) (cd_Model_errorOf b) = true
  intro b
  match b with
  | 0 => exact fit_Model_errorOf_0
  | 1 => exact fit_Model_errorOf_1
  | 2 => exact fit_Model_errorOf_2
  | 3 => exact fit_Model_errorOf_3
  | 4 => exact fit_Model_errorOf_4
  | 5 => exact fit_Model_errorOf_5
  | 6 => exact fit_Model_errorOf_6
  | 7 => exact fit_Model_errorOf_7
  | 8 => exact fit_Model_errorOf_8
  | 9 => exact fit_Model_errorOf_9
  | 10 => exact fit_Model_errorOf_10
  | 11 => exact fit_Model_errorOf_11
  | 12 => exact fit_Model_errorOf_12
  | 13 => exact fit_Model_errorOf_13
  | 14 => exact fit_Model_errorOf_14
  | 15 => exact fit_Model_errorOf_15
  | 16 => exact fit_Model_errorOf_16
  | 17 => exact fit_Model_errorOf_17
  | 18 => exact fit_Model_errorOf_18
  | 19 => exact fit_Model_errorOf_19
  | 20 => exact fit_Model_errorOf_20
  | 21 => exact fit_Model_errorOf_21
  | 22 => exact fit_Model_errorOf_22
  | 23 => exact fit_Model_errorOf_23
  | 24 => exact fit_Model_errorOf_24
  | 25 => exact fit_Model_errorOf_25
  | 26 => exact fit_Model_errorOf_26
  | 27 => exact fit_Model_errorOf_27
  | 28 => exact fit_Model_errorOf_28
  | 29 => exact fit_Model_errorOf_29
  | 30 => exact fit_Model_errorOf_30
  | 31 => exact fit_Model_errorOf_31
  | 32 => exact fit_Model_errorOf_32
  | 33 => exact fit_Model_errorOf_33
  | 34 => exact fit_Model_errorOf_34
  | 35 => exact fit_Model_errorOf_35
  | 36 => exact fit_Model_errorOf_36
  | 37 => exact fit_Model_errorOf_37
  | 38 => exact fit_Model_errorOf_38
  | 39 => exact fit_Model_errorOf_39
  | 40 => exact fit_Model_errorOf_40
  | 41 => exact fit_Model_errorOf_41
  | 42 => exact fit_Model_errorOf_42
  | 43 => exact fit_Model_errorOf_43
  | 44 => exact fit_Model_errorOf_44
  | 45 => exact fit_Model_errorOf_45
  | 46 => exact fit_Model_errorOf_46
  | 47 => exact fit_Model_errorOf_47
  | 48 => exact fit_Model_errorOf_48
  | 49 => exact fit_Model_errorOf_49
  | n + 50 => rfl
theorem fitM_Model_firstError : sm_FitM kModel_firstError := by
  show ∀ b, sm_fit (lt_R kModel_firstError) (lt_n kModel_firstError) (lt_fl kModel_firstError).1 (lt_fl kModel_firstError).2 (lt_r kModel_firstError) (lt_b kModel_firstError) pc_Model_firstError (pc_Model_firstError b) (cd_Model_firstError b) = true
  intro b
  match b with
  | 0 => exact fit_Model_firstError_0
  | 1 => exact fit_Model_firstError_1
  | 2 => exact fit_Model_firstError_2
  | 3 => exact fit_Model_firstError_3
  | 4 => exact fit_Model_firstError_4
  | 5 => exact fit_Model_firstError_5
  | 6 => exact fit_Model_firstError_6
  | n + 7 => rfl
theorem fitM_Model_check : sm_FitM kModel_check := by
  show ∀ b, sm_fit (lt_R kModel_check) (lt_n kModel_check) (lt_fl kModel_check).1 (lt_fl kModel_check).2 (lt_r kModel_check) (lt_b kModel_check) pc_Model_check (pc_Model_check b) (cd_Model_check b) = true
  intro b
  match b with
  | 0 => exact fit_Model_check_0
  | 1 => exact fit_Model_check_1
  | 2 => exact fit_Model_check_2
  | 3 => exact fit_Model_check_3
  | 4 => exact fit_Model_check_4
  | 5 => exact fit_Model_check_5
  | 6 => exact fit_Model_check_6
  | n + 7 => rfl
theorem fitM_Model_error : sm_FitM kModel_error := by
  show ∀ b, sm_fit (lt_R kModel_error) (lt_n kModel_error) (lt_fl kModel_error).1 (lt_fl kModel_error).2 (lt_r kModel_error) (lt_b kModel_error) pc_Model_error (pc_Model_error b) (cd_Model_error b) = true
  intro b
  match b with
  | 0 => exact fit_Model_error_0
  | 1 => exact fit_Model_error_1
  | 2 => exact fit_Model_error_2
  | 3 => exact fit_Model_error_3
  | 4 => exact fit_Model_error_4
  | 5 => exact fit_Model_error_5
  | 6 => exact fit_Model_error_6
  | 7 => exact fit_Model_error_7
  | 8 => exact fit_Model_error_8
  | 9 => exact fit_Model_error_9
  | n + 10 => rfl
theorem fitM_Model_borrower : sm_FitM kModel_borrower := by
  show ∀ b, sm_fit (lt_R kModel_borrower) (lt_n kModel_borrower) (lt_fl kModel_borrower).1 (lt_fl kModel_borrower).2 (lt_r kModel_borrower) (lt_b kModel_borrower) pc_Model_borrower (pc_Model_borrower b) (cd_Model_borrower b) = true
  intro b
  match b with
  | 0 => exact fit_Model_borrower_0
  | 1 => exact fit_Model_borrower_1
  | 2 => exact fit_Model_borrower_2
  | 3 => exact fit_Model_borrower_3
  | 4 => exact fit_Model_borrower_4
  | 5 => exact fit_Model_borrower_5
  | 6 => exact fit_Model_borrower_6
  | 7 => exact fit_Model_borrower_7
  | 8 => exact fit_Model_borrower_8
  | 9 => exact fit_Model_borrower_9
  | 10 => exact fit_Model_borrower_10
  | 11 => exact fit_Model_borrower_11
  | 12 => exact fit_Model_borrower_12
  | n + 13 => rfl
theorem fitM_Model_isNode : sm_FitM kModel_isNode := by
  show ∀ b, sm_fit (lt_R kModel_isNode) (lt_n kModel_isNode) (lt_fl kModel_isNode).1 (lt_fl kModel_isNode).2 (lt_r kModel_isNode) (lt_b kModel_isNode) pc_Model_isNode (pc_Model_isNode b) (cd_Model_isNode b) = true
  intro b
  match b with
  | 0 => exact fit_Model_isNode_0
  | 1 => exact fit_Model_isNode_1
  | 2 => exact fit_Model_isNode_2
  | 3 => exact fit_Model_isNode_3
  | 4 => exact fit_Model_isNode_4
  | n + 5 => rfl
theorem fitM_Model_holds : sm_FitM kModel_holds := by
  show ∀ b, sm_fit (lt_R kModel_holds) (lt_n kModel_holds) (lt_fl kModel_holds).1 (lt_fl kModel_holds).2 (lt_r kModel_holds) (lt_b kModel_holds) pc_Model_holds (pc_Model_holds b) (cd_Model_holds b) = true
  intro b
  match b with
  | 0 => exact fit_Model_holds_0
  | 1 => exact fit_Model_holds_1
  | 2 => exact fit_Model_holds_2
  | 3 => exact fit_Model_holds_3
  | 4 => exact fit_Model_holds_4
  | 5 => exact fit_Model_holds_5
  | 6 => exact fit_Model_holds_6
  | 7 => exact fit_Model_holds_7
  | 8 => exact fit_Model_holds_8
  | 9 => exact fit_Model_holds_9
  | n + 10 => rfl
theorem fitM_Model_at : sm_FitM kModel_at := by
  show ∀ b, sm_fit (lt_R kModel_at) (lt_n kModel_at) (lt_fl kModel_at).1 (lt_fl kModel_at).2 (lt_r kModel_at) (lt_b kModel_at) pc_Model_at (pc_Model_at b) (cd_Model_at b) = true
  intro b
  match b with
  | 0 => exact fit_Model_at_0
  | 1 => exact fit_Model_at_1
  | 2 => exact fit_Model_at_2
  | 3 => exact fit_Model_at_3
  | 4 => exact fit_Model_at_4
  | 5 => exact fit_Model_at_5
  | 6 => exact fit_Model_at_6
  | 7 => exact fit_Model_at_7
  | 8 => exact fit_Model_at_8
  | 9 => exact fit_Model_at_9
  | n + 10 => rfl
theorem fitM_Model_lives : sm_FitM kModel_lives := by
  show ∀ b, sm_fit (lt_R kModel_lives) (lt_n kModel_lives) (lt_fl kModel_lives).1 (lt_fl kModel_lives).2 (lt_r kModel_lives) (lt_b kModel_lives) pc_Model_lives (pc_Model_lives b) (cd_Model_lives b) = true
  intro b
  match b with
  | 0 => exact fit_Model_lives_0
  | 1 => exact fit_Model_lives_1
  | 2 => exact fit_Model_lives_2
  | 3 => exact fit_Model_lives_3
  | 4 => exact fit_Model_lives_4
  | 5 => exact fit_Model_lives_5
  | n + 6 => rfl
theorem fitM_Model_waits : sm_FitM kModel_waits := by
  show ∀ b, sm_fit (lt_R kModel_waits) (lt_n kModel_waits) (lt_fl kModel_waits).1 (lt_fl kModel_waits).2 (lt_r kModel_waits) (lt_b kModel_waits) pc_Model_waits (pc_Model_waits b) (cd_Model_waits b) = true
  intro b
  match b with
  | 0 => exact fit_Model_waits_0
  | 1 => exact fit_Model_waits_1
  | 2 => exact fit_Model_waits_2
  | 3 => exact fit_Model_waits_3
  | 4 => exact fit_Model_waits_4
  | 5 => exact fit_Model_waits_5
  | n + 6 => rfl
theorem fitM_Model_reads : sm_FitM kModel_reads := by
  show ∀ b, sm_fit (lt_R kModel_reads) (lt_n kModel_reads) (lt_fl kModel_reads).1 (lt_fl kModel_reads).2 (lt_r kModel_reads) (lt_b kModel_reads) pc_Model_reads (pc_Model_reads b) (cd_Model_reads b) = true
  intro b
  match b with
  | 0 => exact fit_Model_reads_0
  | 1 => exact fit_Model_reads_1
  | 2 => exact fit_Model_reads_2
  | 3 => exact fit_Model_reads_3
  | 4 => exact fit_Model_reads_4
  | 5 => exact fit_Model_reads_5
  | 6 => exact fit_Model_reads_6
  | 7 => exact fit_Model_reads_7
  | 8 => exact fit_Model_reads_8
  | 9 => exact fit_Model_reads_9
  | n + 10 => rfl
theorem fitM_Model_keeps : sm_FitM kModel_keeps := by
  show ∀ b, sm_fit (lt_R kModel_keeps) (lt_n kModel_keeps) (lt_fl kModel_keeps).1 (lt_fl kModel_keeps).2 (lt_r kModel_keeps) (lt_b kModel_keeps) pc_Model_keeps (pc_Model_keeps b) (cd_Model_keeps b) = true
  intro b
  match b with
  | 0 => exact fit_Model_keeps_0
  | 1 => exact fit_Model_keeps_1
  | 2 => exact fit_Model_keeps_2
  | 3 => exact fit_Model_keeps_3
  | 4 => exact fit_Model_keeps_4
  | 5 => exact fit_Model_keeps_5
  | 6 => exact fit_Model_keeps_6
  | 7 => exact fit_Model_keeps_7
  | 8 => exact fit_Model_keeps_8
  | 9 => exact fit_Model_keeps_9
  | 10 => exact fit_Model_keeps_10
  | 11 => exact fit_Model_keeps_11
  | 12 => exact fit_Model_keeps_12
  | 13 => exact fit_Model_keeps_13
  | 14 => exact fit_Model_keeps_14
  | 15 => exact fit_Model_keeps_15
  | 16 => exact fit_Model_keeps_16
  | 17 => exact fit_Model_keeps_17
  | n + 18 => rfl
theorem fitM_Model_sideOf : sm_FitM kModel_sideOf := by
  show ∀ b, sm_fit (lt_R kModel_sideOf) (lt_n kModel_sideOf) (lt_fl kModel_sideOf).1 (lt_fl kModel_sideOf).2 (lt_r kModel_sideOf) (lt_b kModel_sideOf) pc_Model_sideOf (pc_Model_sideOf b) (cd_Model_sideOf b) = true
  intro b
  match b with
  | 0 => exact fit_Model_sideOf_0
  | 1 => exact fit_Model_sideOf_1
  | 2 => exact fit_Model_sideOf_2
  | 3 => exact fit_Model_sideOf_3
  | 4 => exact fit_Model_sideOf_4
  | 5 => exact fit_Model_sideOf_5
  | 6 => exact fit_Model_sideOf_6
  | n + 7 => rfl
theorem fitM_Model_stepsOn : sm_FitM kModel_stepsOn := by
  show ∀ b, sm_fit (lt_R kModel_stepsOn) (lt_n kModel_stepsOn) (lt_fl kModel_stepsOn).1 (lt_fl kModel_stepsOn).2 (lt_r kModel_stepsOn) (lt_b kModel_stepsOn) pc_Model_stepsOn (pc_Model_stepsOn b) (cd_Model_stepsOn b) = true
  intro b
  match b with
  | 0 => exact fit_Model_stepsOn_0
  | 1 => exact fit_Model_stepsOn_1
  | 2 => exact fit_Model_stepsOn_2
  | 3 => exact fit_Model_stepsOn_3
  | 4 => exact fit_Model_stepsOn_4
  | 5 => exact fit_Model_stepsOn_5
  | 6 => exact fit_Model_stepsOn_6
  | 7 => exact fit_Model_stepsOn_7
  | 8 => exact fit_Model_stepsOn_8
  | 9 => exact fit_Model_stepsOn_9
  | 10 => exact fit_Model_stepsOn_10
  | 11 => exact fit_Model_stepsOn_11
  | 12 => exact fit_Model_stepsOn_12
  | 13 => exact fit_Model_stepsOn_13
  | 14 => exact fit_Model_stepsOn_14
  | 15 => exact fit_Model_stepsOn_15
  | 16 => exact fit_Model_stepsOn_16
  | 17 => exact fit_Model_stepsOn_17
  | 18 => exact fit_Model_stepsOn_18
  | 19 => exact fit_Model_stepsOn_19
  | 20 => exact fit_Model_stepsOn_20
  | 21 => exact fit_Model_stepsOn_21
  | 22 => exact fit_Model_stepsOn_22
  | 23 => exact fit_Model_stepsOn_23
  | 24 => exact fit_Model_stepsOn_24
  | 25 => exact fit_Model_stepsOn_25
  | 26 => exact fit_Model_stepsOn_26
  | 27 => exact fit_Model_stepsOn_27
  | 28 => exact fit_Model_stepsOn_28
  | 29 => exact fit_Model_stepsOn_29
  | n + 30 => rfl
theorem fitM_Model_stuck : sm_FitM kModel_stuck := by
  show ∀ b, sm_fit (lt_R kModel_stuck) (lt_n kModel_stuck) (lt_fl kModel_stuck).1 (lt_fl kModel_stuck).2 (lt_r kModel_stuck) (lt_b kModel_stuck) pc_Model_stuck (pc_Model_stuck b) (cd_Model_stuck b) = true
  intro b
  match b with
  | 0 => exact fit_Model_stuck_0
  | 1 => exact fit_Model_stuck_1
  | 2 => exact fit_Model_stuck_2
  | 3 => exact fit_Model_stuck_3
  | 4 => exact fit_Model_stuck_4
  | 5 => exact fit_Model_stuck_5
  | 6 => exact fit_Model_stuck_6
  | 7 => exact fit_Model_stuck_7
  | 8 => exact fit_Model_stuck_8
  | 9 => exact fit_Model_stuck_9
  | 10 => exact fit_Model_stuck_10
  | 11 => exact fit_Model_stuck_11
  | 12 => exact fit_Model_stuck_12
  | 13 => exact fit_Model_stuck_13
  | 14 => exact fit_Model_stuck_14
  | 15 => exact fit_Model_stuck_15
  | 16 => exact fit_Model_stuck_16
  | 17 => exact fit_Model_stuck_17
  | 18 => exact fit_Model_stuck_18
  | 19 => exact fit_Model_stuck_19
  | 20 => exact fit_Model_stuck_20
  | 21 => exact fit_Model_stuck_21
  | 22 => exact fit_Model_stuck_22
  | 23 => exact fit_Model_stuck_23
  | 24 => exact fit_Model_stuck_24
  | 25 => exact fit_Model_stuck_25
  | 26 => exact fit_Model_stuck_26
  | 27 => exact fit_Model_stuck_27
  | 28 => exact fit_Model_stuck_28
  | 29 => exact fit_Model_stuck_29
  | 30 => exact fit_Model_stuck_30
  | 31 => exact fit_Model_stuck_31
  | 32 => exact fit_Model_stuck_32
  | 33 => exact fit_Model_stuck_33
  | 34 => exact fit_Model_stuck_34
  | 35 => exact fit_Model_stuck_35
  | n + 36 => rfl
theorem fitM_Model_begin : sm_FitM kModel_begin := by
  show ∀ b, sm_fit (lt_R kModel_begin) (lt_n kModel_begin) (lt_fl kModel_begin).1 (lt_fl kModel_begin).2 (lt_r kModel_begin) (lt_b kModel_begin) pc_Model_begin (pc_Model_begin b) (cd_Model_begin b) = true
  intro b
  match b with
  | 0 => exact fit_Model_begin_0
  | 1 => exact fit_Model_begin_1
  | 2 => exact fit_Model_begin_2
  | 3 => exact fit_Model_begin_3
  | 4 => exact fit_Model_begin_4
  | 5 => exact fit_Model_begin_5
  | 6 => exact fit_Model_begin_6
  | 7 => exact fit_Model_begin_7
  | 8 => exact fit_Model_begin_8
  | 9 => exact fit_Model_begin_9
  | n + 10 => rfl
theorem fitM_Model_goesAway : sm_FitM kModel_goesAway := by
  show ∀ b, sm_fit (lt_R kModel_goesAway) (lt_n kModel_goesAway) (lt_fl kModel_goesAway).1 (lt_fl kModel_goesAway).2 (lt_r kModel_goesAway) (lt_b kModel_goesAway) pc_Model_goesAway (pc_Model_goesAway b) (cd_Model_goesAway b) = true
  intro b
  match b with
  | 0 => exact fit_Model_goesAway_0
  | 1 => exact fit_Model_goesAway_1
  | 2 => exact fit_Model_goesAway_2
  | n + 3 => rfl
theorem fitM_Model_ownerOf : sm_FitM kModel_ownerOf := by
  show ∀ b, sm_fit (lt_R kModel_ownerOf) (lt_n kModel_ownerOf) (lt_fl kModel_ownerOf).1 (lt_fl kModel_ownerOf).2 (lt_r kModel_ownerOf) (lt_b kModel_ownerOf) pc_Model_ownerOf (pc_Model_ownerOf b) (cd_Model_ownerOf b) = true
  intro b
  match b with
  | 0 => exact fit_Model_ownerOf_0
  | 1 => exact fit_Model_ownerOf_1
  | 2 => exact fit_Model_ownerOf_2
  | 3 => exact fit_Model_ownerOf_3
  | 4 => exact fit_Model_ownerOf_4
  | 5 => exact fit_Model_ownerOf_5
  | 6 => exact fit_Model_ownerOf_6
  | n + 7 => rfl
theorem fitM_Model_holdsStill : sm_FitM kModel_holdsStill := by
  show ∀ b, sm_fit (lt_R kModel_holdsStill) (lt_n kModel_holdsStill) (lt_fl kModel_holdsStill).1 (lt_fl kModel_holdsStill).2 (lt_r kModel_holdsStill) (lt_b kModel_holdsStill) pc_Model_holdsStill (pc_Model_holdsStill b) (cd_Model_holdsStill b) = true
  intro b
  match b with
  | 0 => exact fit_Model_holdsStill_0
  | 1 => exact fit_Model_holdsStill_1
  | 2 => exact fit_Model_holdsStill_2
  | 3 => exact fit_Model_holdsStill_3
  | 4 => exact fit_Model_holdsStill_4
  | 5 => exact fit_Model_holdsStill_5
  | 6 => exact fit_Model_holdsStill_6
  | 7 => exact fit_Model_holdsStill_7
  | n + 8 => rfl
theorem fitM_Model_leaves : sm_FitM kModel_leaves := by
  show ∀ b, sm_fit (lt_R kModel_leaves) (lt_n kModel_leaves) (lt_fl kModel_leaves).1 (lt_fl kModel_leaves).2 (lt_r kModel_leaves) (lt_b kModel_leaves) pc_Model_leaves (pc_Model_leaves b) (cd_Model_leaves b) = true
  intro b
  match b with
  | 0 => exact fit_Model_leaves_0
  | 1 => exact fit_Model_leaves_1
  | 2 => exact fit_Model_leaves_2
  | 3 => exact fit_Model_leaves_3
  | n + 4 => rfl
theorem fitM_Model_owns : sm_FitM kModel_owns := by
  show ∀ b, sm_fit (lt_R kModel_owns) (lt_n kModel_owns) (lt_fl kModel_owns).1 (lt_fl kModel_owns).2 (lt_r kModel_owns) (lt_b kModel_owns) pc_Model_owns (pc_Model_owns b) (cd_Model_owns b) = true
  intro b
  match b with
  | 0 => exact fit_Model_owns_0
  | n + 1 => rfl
theorem fitM_Model_uses : sm_FitM kModel_uses := by
  show ∀ b, sm_fit (lt_R kModel_uses) (lt_n kModel_uses) (lt_fl kModel_uses).1 (lt_fl kModel_uses).2 (lt_r kModel_uses) (lt_b kModel_uses) pc_Model_uses (pc_Model_uses b) (cd_Model_uses b) = true
  intro b
  match b with
  | 0 => exact fit_Model_uses_0
  | 1 => exact fit_Model_uses_1
  | 2 => exact fit_Model_uses_2
  | 3 => exact fit_Model_uses_3
  | 4 => exact fit_Model_uses_4
  | 5 => exact fit_Model_uses_5
  | 6 => exact fit_Model_uses_6
  | n + 7 => rfl
theorem fitM_Model_isAtNeeded : sm_FitM kModel_isAtNeeded := by
  show ∀ b, sm_fit (lt_R kModel_isAtNeeded) (lt_n kModel_isAtNeeded) (lt_fl kModel_isAtNeeded).1 (lt_fl kModel_isAtNeeded).2 (lt_r kModel_isAtNeeded) (lt_b kModel_isAtNeeded) pc_Model_isAtNeeded (pc_Model_isAtNeeded b) (cd_Model_isAtNeeded b) = true
  intro b
  match b with
  | 0 => exact fit_Model_isAtNeeded_0
  | 1 => exact fit_Model_isAtNeeded_1
  | 2 => exact fit_Model_isAtNeeded_2
  | 3 => exact fit_Model_isAtNeeded_3
  | 4 => exact fit_Model_isAtNeeded_4
  | 5 => exact fit_Model_isAtNeeded_5
  | n + 6 => rfl
theorem fitM_Model_otherOf : sm_FitM kModel_otherOf := by
  show ∀ b, sm_fit (lt_R kModel_otherOf) (lt_n kModel_otherOf) (lt_fl kModel_otherOf).1 (lt_fl kModel_otherOf).2 (lt_r kModel_otherOf) (lt_b kModel_otherOf) pc_Model_otherOf (pc_Model_otherOf b) (cd_Model_otherOf b) = true
  intro b
  match b with
  | 0 => exact fit_Model_otherOf_0
  | 1 => exact fit_Model_otherOf_1
  | 2 => exact fit_Model_otherOf_2
  | 3 => exact fit_Model_otherOf_3
  | n + 4 => rfl
theorem fitM_Model_isWaiting : sm_FitM kModel_isWaiting := by
  show ∀ b, sm_fit (lt_R kModel_isWaiting) (lt_n kModel_isWaiting) (lt_fl kModel_isWaiting).1 (lt_fl kModel_isWaiting).2 (lt_r kModel_isWaiting) (lt_b kModel_isWaiting) pc_Model_isWaiting (pc_Model_isWaiting b) (cd_Model_isWaiting b) = true
  intro b
  match b with
  | 0 => exact fit_Model_isWaiting_0
  | 1 => exact fit_Model_isWaiting_1
  | 2 => exact fit_Model_isWaiting_2
  | 3 => exact fit_Model_isWaiting_3
  | 4 => exact fit_Model_isWaiting_4
  | 5 => exact fit_Model_isWaiting_5
  | 6 => exact fit_Model_isWaiting_6
  | 7 => exact fit_Model_isWaiting_7
  | 8 => exact fit_Model_isWaiting_8
  | 9 => exact fit_Model_isWaiting_9
  | 10 => exact fit_Model_isWaiting_10
  | 11 => exact fit_Model_isWaiting_11
  | 12 => exact fit_Model_isWaiting_12
  | 13 => exact fit_Model_isWaiting_13
  | 14 => exact fit_Model_isWaiting_14
  | n + 15 => rfl
theorem fitM_Model_broken : sm_FitM kModel_broken := by
  show ∀ b, sm_fit (lt_R kModel_broken) (lt_n kModel_broken) (lt_fl kModel_broken).1 (lt_fl kModel_broken).2 (lt_r kModel_broken) (lt_b kModel_broken) pc_Model_broken (pc_Model_broken b) (cd_Model_broken b) = true
  intro b
  match b with
  | 0 => exact fit_Model_broken_0
  | 1 => exact fit_Model_broken_1
  | 2 => exact fit_Model_broken_2
  | 3 => exact fit_Model_broken_3
  | 4 => exact fit_Model_broken_4
  | 5 => exact fit_Model_broken_5
  | 6 => exact fit_Model_broken_6
  | 7 => exact fit_Model_broken_7
  | 8 => exact fit_Model_broken_8
  | 9 => exact fit_Model_broken_9
  | 10 => exact fit_Model_broken_10
  | 11 => exact fit_Model_broken_11
  | 12 => exact fit_Model_broken_12
  | 13 => exact fit_Model_broken_13
  | 14 => exact fit_Model_broken_14
  | 15 => exact fit_Model_broken_15
  | 16 => exact fit_Model_broken_16
  | 17 => exact fit_Model_broken_17
  | 18 => exact fit_Model_broken_18
  | 19 => exact fit_Model_broken_19
  | 20 => exact fit_Model_broken_20
  | 21 => exact fit_Model_broken_21
  | 22 => exact fit_Model_broken_22
  | 23 => exact fit_Model_broken_23
  | 24 => exact fit_Model_broken_24
  | 25 => exact fit_Model_broken_25
  | 26 => exact fit_Model_broken_26
  | 27 => exact fit_Model_broken_27
  | 28 => exact fit_Model_broken_28
  | 29 => exact fit_Model_broken_29
  | 30 => exact fit_Model_broken_30
  | 31 => exact fit_Model_broken_31
  | 32 => exact fit_Model_broken_32
  | 33 => exact fit_Model_broken_33
  | 34 => exact fit_Model_broken_34
  | 35 => exact fit_Model_broken_35
  | 36 => exact fit_Model_broken_36
  | 37 => exact fit_Model_broken_37
  | 38 => exact fit_Model_broken_38
  | 39 => exact fit_Model_broken_39
  | n + 40 => rfl
theorem fitM_Model_brokenByMessage : sm_FitM kModel_brokenByMessage := by
  show ∀ b, sm_fit (lt_R kModel_brokenByMessage) (lt_n kModel_brokenByMessage) (lt_fl kModel_brokenByMessage).1 (lt_fl kModel_brokenByMessage).2 (lt_r kModel_brokenByMessage) (lt_b kModel_brokenByMessage) pc_Model_brokenByMessage (pc_Model_brokenByMessage b) (cd_Model_brokenByMessage b) = true
  intro b
  match b with
  | 0 => exact fit_Model_brokenByMessage_0
  | 1 => exact fit_Model_brokenByMessage_1
  | 2 => exact fit_Model_brokenByMessage_2
  | 3 => exact fit_Model_brokenByMessage_3
  | 4 => exact fit_Model_brokenByMessage_4
  | 5 => exact fit_Model_brokenByMessage_5
  | 6 => exact fit_Model_brokenByMessage_6
  | 7 => exact fit_Model_brokenByMessage_7
  | 8 => exact fit_Model_brokenByMessage_8
  | 9 => exact fit_Model_brokenByMessage_9
  | 10 => exact fit_Model_brokenByMessage_10
  | 11 => exact fit_Model_brokenByMessage_11
  | 12 => exact fit_Model_brokenByMessage_12
  | n + 13 => rfl
theorem fitM_Model_dropsOwned : sm_FitM kModel_dropsOwned := by
  show ∀ b, sm_fit (lt_R kModel_dropsOwned) (lt_n kModel_dropsOwned) (lt_fl kModel_dropsOwned).1 (lt_fl kModel_dropsOwned).2 (lt_r kModel_dropsOwned) (lt_b kModel_dropsOwned) pc_Model_dropsOwned (pc_Model_dropsOwned b) (cd_Model_dropsOwned b) = true
  intro b
  match b with
  | 0 => exact fit_Model_dropsOwned_0
  | 1 => exact fit_Model_dropsOwned_1
  | 2 => exact fit_Model_dropsOwned_2
  | 3 => exact fit_Model_dropsOwned_3
  | 4 => exact fit_Model_dropsOwned_4
  | 5 => exact fit_Model_dropsOwned_5
  | 6 => exact fit_Model_dropsOwned_6
  | 7 => exact fit_Model_dropsOwned_7
  | 8 => exact fit_Model_dropsOwned_8
  | 9 => exact fit_Model_dropsOwned_9
  | 10 => exact fit_Model_dropsOwned_10
  | 11 => exact fit_Model_dropsOwned_11
  | 12 => exact fit_Model_dropsOwned_12
  | 13 => exact fit_Model_dropsOwned_13
  | 14 => exact fit_Model_dropsOwned_14
  | 15 => exact fit_Model_dropsOwned_15
  | 16 => exact fit_Model_dropsOwned_16
  | 17 => exact fit_Model_dropsOwned_17
  | n + 18 => rfl
theorem fitM_Model_dies : sm_FitM kModel_dies := by
  show ∀ b, sm_fit (lt_R kModel_dies) (lt_n kModel_dies) (lt_fl kModel_dies).1 (lt_fl kModel_dies).2 (lt_r kModel_dies) (lt_b kModel_dies) pc_Model_dies (pc_Model_dies b) (cd_Model_dies b) = true
  intro b
  match b with
  | 0 => exact fit_Model_dies_0
  | 1 => exact fit_Model_dies_1
  | 2 => exact fit_Model_dies_2
  | 3 => exact fit_Model_dies_3
  | 4 => exact fit_Model_dies_4
  | 5 => exact fit_Model_dies_5
  | 6 => exact fit_Model_dies_6
  | 7 => exact fit_Model_dies_7
  | 8 => exact fit_Model_dies_8
  | 9 => exact fit_Model_dies_9
  | 10 => exact fit_Model_dies_10
  | n + 11 => rfl
theorem fitM_Model_ends : sm_FitM kModel_ends := by
  show ∀ b, sm_fit (lt_R kModel_ends) (lt_n kModel_ends) (lt_fl kModel_ends).1 (lt_fl kModel_ends).2 (lt_r kModel_ends) (lt_b kModel_ends) pc_Model_ends (pc_Model_ends b) (cd_Model_ends b) = true
  intro b
  match b with
  | 0 => exact fit_Model_ends_0
  | 1 => exact fit_Model_ends_1
  | 2 => exact fit_Model_ends_2
  | 3 => exact fit_Model_ends_3
  | 4 => exact fit_Model_ends_4
  | 5 => exact fit_Model_ends_5
  | 6 => exact fit_Model_ends_6
  | 7 => exact fit_Model_ends_7
  | 8 => exact fit_Model_ends_8
  | 9 => exact fit_Model_ends_9
  | 10 => exact fit_Model_ends_10
  | 11 => exact fit_Model_ends_11
  | 12 => exact fit_Model_ends_12
  | 13 => exact fit_Model_ends_13
  | 14 => exact fit_Model_ends_14
  | 15 => exact fit_Model_ends_15
  | 16 => exact fit_Model_ends_16
  | 17 => exact fit_Model_ends_17
  | 18 => exact fit_Model_ends_18
  | n + 19 => rfl
theorem fitM_Model_goesOver : sm_FitM kModel_goesOver := by
  show ∀ b, sm_fit (lt_R kModel_goesOver) (lt_n kModel_goesOver) (lt_fl kModel_goesOver).1 (lt_fl kModel_goesOver).2 (lt_r kModel_goesOver) (lt_b kModel_goesOver) pc_Model_goesOver (pc_Model_goesOver b) (cd_Model_goesOver b) = true
  intro b
  match b with
  | 0 => exact fit_Model_goesOver_0
  | 1 => exact fit_Model_goesOver_1
  | 2 => exact fit_Model_goesOver_2
  | 3 => exact fit_Model_goesOver_3
  | 4 => exact fit_Model_goesOver_4
  | n + 5 => rfl
theorem fitM_Model_takes : sm_FitM kModel_takes := by
  show ∀ b, sm_fit (lt_R kModel_takes) (lt_n kModel_takes) (lt_fl kModel_takes).1 (lt_fl kModel_takes).2 (lt_r kModel_takes) (lt_b kModel_takes) pc_Model_takes (pc_Model_takes b) (cd_Model_takes b) = true
  intro b
  match b with
  | 0 => exact fit_Model_takes_0
  | n + 1 => rfl
theorem fitM_Model_copied : sm_FitM kModel_copied := by
  show ∀ b, sm_fit (lt_R kModel_copied) (lt_n kModel_copied) (lt_fl kModel_copied).1 (lt_fl kModel_copied).2 (lt_r kModel_copied) (lt_b kModel_copied) pc_Model_copied (pc_Model_copied b) (cd_Model_copied b) = true
  intro b
  match b with
  | 0 => exact fit_Model_copied_0
  | n + 1 => rfl
theorem fitM_Model_movesOver : sm_FitM kModel_movesOver := by
  show ∀ b, sm_fit (lt_R kModel_movesOver) (lt_n kModel_movesOver) (lt_fl kModel_movesOver).1 (lt_fl kModel_movesOver).2 (lt_r kModel_movesOver) (lt_b kModel_movesOver) pc_Model_movesOver (pc_Model_movesOver b) (cd_Model_movesOver b) = true
  intro b
  match b with
  | 0 => exact fit_Model_movesOver_0
  | 1 => exact fit_Model_movesOver_1
  | 2 => exact fit_Model_movesOver_2
  | 3 => exact fit_Model_movesOver_3
  | 4 => exact fit_Model_movesOver_4
  | 5 => exact fit_Model_movesOver_5
  | 6 => exact fit_Model_movesOver_6
  | 7 => exact fit_Model_movesOver_7
  | 8 => exact fit_Model_movesOver_8
  | 9 => exact fit_Model_movesOver_9
  | n + 10 => rfl
theorem fitM_Model_sharesOn : sm_FitM kModel_sharesOn := by
  show ∀ b, sm_fit (lt_R kModel_sharesOn) (lt_n kModel_sharesOn) (lt_fl kModel_sharesOn).1 (lt_fl kModel_sharesOn).2 (lt_r kModel_sharesOn) (lt_b kModel_sharesOn) pc_Model_sharesOn (pc_Model_sharesOn b) (cd_Model_sharesOn b) = true
  intro b
  match b with
  | 0 => exact fit_Model_sharesOn_0
  | 1 => exact fit_Model_sharesOn_1
  | 2 => exact fit_Model_sharesOn_2
  | 3 => exact fit_Model_sharesOn_3
  | 4 => exact fit_Model_sharesOn_4
  | 5 => exact fit_Model_sharesOn_5
  | n + 6 => rfl
theorem fitM_Model_sends : sm_FitM kModel_sends := by
  show ∀ b, sm_fit (lt_R kModel_sends) (lt_n kModel_sends) (lt_fl kModel_sends).1 (lt_fl kModel_sends).2 (lt_r kModel_sends) (lt_b kModel_sends) pc_Model_sends (pc_Model_sends b) (cd_Model_sends b) = true
  intro b
  match b with
  | 0 => exact fit_Model_sends_0
  | 1 => exact fit_Model_sends_1
  | 2 => exact fit_Model_sends_2
  | 3 => exact fit_Model_sends_3
  | n + 4 => rfl
theorem fitM_Model_carriesOut : sm_FitM kModel_carriesOut := by
  show ∀ b, sm_fit (lt_R kModel_carriesOut) (lt_n kModel_carriesOut) (lt_fl kModel_carriesOut).1 (lt_fl kModel_carriesOut).2 (lt_r kModel_carriesOut) (lt_b kModel_carriesOut) pc_Model_carriesOut (pc_Model_carriesOut b) (cd_Model_carriesOut b) = true
  intro b
  match b with
  | 0 => exact fit_Model_carriesOut_0
  | 1 => exact fit_Model_carriesOut_1
  | 2 => exact fit_Model_carriesOut_2
  | 3 => exact fit_Model_carriesOut_3
  | 4 => exact fit_Model_carriesOut_4
  | 5 => exact fit_Model_carriesOut_5
  | 6 => exact fit_Model_carriesOut_6
  | 7 => exact fit_Model_carriesOut_7
  | 8 => exact fit_Model_carriesOut_8
  | 9 => exact fit_Model_carriesOut_9
  | 10 => exact fit_Model_carriesOut_10
  | 11 => exact fit_Model_carriesOut_11
  | 12 => exact fit_Model_carriesOut_12
  | 13 => exact fit_Model_carriesOut_13
  | 14 => exact fit_Model_carriesOut_14
  | 15 => exact fit_Model_carriesOut_15
  | 16 => exact fit_Model_carriesOut_16
  | 17 => exact fit_Model_carriesOut_17
  | 18 => exact fit_Model_carriesOut_18
  | 19 => exact fit_Model_carriesOut_19
  | 20 => exact fit_Model_carriesOut_20
  | 21 => exact fit_Model_carriesOut_21
  | 22 => exact fit_Model_carriesOut_22
  | 23 => exact fit_Model_carriesOut_23
  | 24 => exact fit_Model_carriesOut_24
  | 25 => exact fit_Model_carriesOut_25
  | n + 26 => rfl
theorem fitM_Model_goesFurther : sm_FitM kModel_goesFurther := by
  show ∀ b, sm_fit (lt_R kModel_goesFurther) (lt_n kModel_goesFurther) (lt_fl kModel_goesFurther).1 (lt_fl kModel_goesFurther).2 (lt_r kModel_goesFurther) (lt_b kModel_goesFurther) pc_Model_goesFurther (pc_Model_goesFurther b) (cd_Model_goesFurther b) = true
  intro b
  match b with
  | 0 => exact fit_Model_goesFurther_0
  | 1 => exact fit_Model_goesFurther_1
  | 2 => exact fit_Model_goesFurther_2
  | 3 => exact fit_Model_goesFurther_3
  | 4 => exact fit_Model_goesFurther_4
  | 5 => exact fit_Model_goesFurther_5
  | 6 => exact fit_Model_goesFurther_6
  | n + 7 => rfl
theorem fitM_Model_go : sm_FitM kModel_go := by
  show ∀ b, sm_fit (lt_R kModel_go) (lt_n kModel_go) (lt_fl kModel_go).1 (lt_fl kModel_go).2 (lt_r kModel_go) (lt_b kModel_go) pc_Model_go (pc_Model_go b) (cd_Model_go b) = true
  intro b
  match b with
  | 0 => exact fit_Model_go_0
  | 1 => exact fit_Model_go_1
  | 2 => exact fit_Model_go_2
  | 3 => exact fit_Model_go_3
  | 4 => exact fit_Model_go_4
  | 5 => exact fit_Model_go_5
  | 6 => exact fit_Model_go_6
  | 7 => exact fit_Model_go_7
  | 8 => exact fit_Model_go_8
  | 9 => exact fit_Model_go_9
  | n + 10 => rfl
theorem fitM_Model_canGo : sm_FitM kModel_canGo := by
  show ∀ b, sm_fit (lt_R kModel_canGo) (lt_n kModel_canGo) (lt_fl kModel_canGo).1 (lt_fl kModel_canGo).2 (lt_r kModel_canGo) (lt_b kModel_canGo) pc_Model_canGo (pc_Model_canGo b) (cd_Model_canGo b) = true
  intro b
  match b with
  | 0 => exact fit_Model_canGo_0
  | 1 => exact fit_Model_canGo_1
  | 2 => exact fit_Model_canGo_2
  | 3 => exact fit_Model_canGo_3
  | 4 => exact fit_Model_canGo_4
  | n + 5 => rfl
theorem fitM_Model_run : sm_FitM kModel_run := by
  show ∀ b, sm_fit (lt_R kModel_run) (lt_n kModel_run) (lt_fl kModel_run).1 (lt_fl kModel_run).2 (lt_r kModel_run) (lt_b kModel_run) pc_Model_run (pc_Model_run b) (cd_Model_run b) = true
  intro b
  match b with
  | 0 => exact fit_Model_run_0
  | 1 => exact fit_Model_run_1
  | 2 => exact fit_Model_run_2
  | 3 => exact fit_Model_run_3
  | 4 => exact fit_Model_run_4
  | 5 => exact fit_Model_run_5
  | 6 => exact fit_Model_run_6
  | 7 => exact fit_Model_run_7
  | 8 => exact fit_Model_run_8
  | 9 => exact fit_Model_run_9
  | 10 => exact fit_Model_run_10
  | 11 => exact fit_Model_run_11
  | 12 => exact fit_Model_run_12
  | 13 => exact fit_Model_run_13
  | 14 => exact fit_Model_run_14
  | 15 => exact fit_Model_run_15
  | 16 => exact fit_Model_run_16
  | 17 => exact fit_Model_run_17
  | 18 => exact fit_Model_run_18
  | 19 => exact fit_Model_run_19
  | 20 => exact fit_Model_run_20
  | 21 => exact fit_Model_run_21
  | n + 22 => rfl
theorem fitM_Model_canRun : sm_FitM kModel_canRun := by
  show ∀ b, sm_fit (lt_R kModel_canRun) (lt_n kModel_canRun) (lt_fl kModel_canRun).1 (lt_fl kModel_canRun).2 (lt_r kModel_canRun) (lt_b kModel_canRun) pc_Model_canRun (pc_Model_canRun b) (cd_Model_canRun b) = true
  intro b
  match b with
  | 0 => exact fit_Model_canRun_0
  | 1 => exact fit_Model_canRun_1
  | 2 => exact fit_Model_canRun_2
  | 3 => exact fit_Model_canRun_3
  | 4 => exact fit_Model_canRun_4
  | 5 => exact fit_Model_canRun_5
  | 6 => exact fit_Model_canRun_6
  | 7 => exact fit_Model_canRun_7
  | 8 => exact fit_Model_canRun_8
  | 9 => exact fit_Model_canRun_9
  | n + 10 => rfl
theorem fitM_Model_isAsked : sm_FitM kModel_isAsked := by
  show ∀ b, sm_fit (lt_R kModel_isAsked) (lt_n kModel_isAsked) (lt_fl kModel_isAsked).1 (lt_fl kModel_isAsked).2 (lt_r kModel_isAsked) (lt_b kModel_isAsked) pc_Model_isAsked (pc_Model_isAsked b) (cd_Model_isAsked b) = true
  intro b
  match b with
  | 0 => exact fit_Model_isAsked_0
  | 1 => exact fit_Model_isAsked_1
  | 2 => exact fit_Model_isAsked_2
  | 3 => exact fit_Model_isAsked_3
  | 4 => exact fit_Model_isAsked_4
  | 5 => exact fit_Model_isAsked_5
  | 6 => exact fit_Model_isAsked_6
  | 7 => exact fit_Model_isAsked_7
  | 8 => exact fit_Model_isAsked_8
  | n + 9 => rfl
theorem fitM_Model_state : sm_FitM kModel_state := by
  show ∀ b, sm_fit (lt_R kModel_state) (lt_n kModel_state) (lt_fl kModel_state).1 (lt_fl kModel_state).2 (lt_r kModel_state) (lt_b kModel_state) pc_Model_state (pc_Model_state b) (cd_Model_state b) = true
  intro b
  match b with
  | 0 => exact fit_Model_state_0
  | 1 => exact fit_Model_state_1
  | 2 => exact fit_Model_state_2
  | 3 => exact fit_Model_state_3
  | n + 4 => rfl
theorem fitM_Model_fault : sm_FitM kModel_fault := by
  show ∀ b, sm_fit (lt_R kModel_fault) (lt_n kModel_fault) (lt_fl kModel_fault).1 (lt_fl kModel_fault).2 (lt_r kModel_fault) (lt_b kModel_fault) pc_Model_fault (pc_Model_fault b) (cd_Model_fault b) = true
  intro b
  match b with
  | 0 => exact fit_Model_fault_0
  | 1 => exact fit_Model_fault_1
  | 2 => exact fit_Model_fault_2
  | 3 => exact fit_Model_fault_3
  | n + 4 => rfl
theorem fitM_Model_place : sm_FitM kModel_place := by
  show ∀ b, sm_fit (lt_R kModel_place) (lt_n kModel_place) (lt_fl kModel_place).1 (lt_fl kModel_place).2 (lt_r kModel_place) (lt_b kModel_place) pc_Model_place (pc_Model_place b) (cd_Model_place b) = true
  intro b
  match b with
  | 0 => exact fit_Model_place_0
  | 1 => exact fit_Model_place_1
  | 2 => exact fit_Model_place_2
  | 3 => exact fit_Model_place_3
  | n + 4 => rfl
theorem fitM_Model_value : sm_FitM kModel_value := by
  show ∀ b, sm_fit (lt_R kModel_value) (lt_n kModel_value) (lt_fl kModel_value).1 (lt_fl kModel_value).2 (lt_r kModel_value) (lt_b kModel_value) pc_Model_value (pc_Model_value b) (cd_Model_value b) = true
  intro b
  match b with
  | 0 => exact fit_Model_value_0
  | 1 => exact fit_Model_value_1
  | 2 => exact fit_Model_value_2
  | 3 => exact fit_Model_value_3
  | 4 => exact fit_Model_value_4
  | 5 => exact fit_Model_value_5
  | 6 => exact fit_Model_value_6
  | 7 => exact fit_Model_value_7
  | 8 => exact fit_Model_value_8
  | n + 9 => rfl
theorem fitM_Model_waiting : sm_FitM kModel_waiting := by
  show ∀ b, sm_fit (lt_R kModel_waiting) (lt_n kModel_waiting) (lt_fl kModel_waiting).1 (lt_fl kModel_waiting).2 (lt_r kModel_waiting) (lt_b kModel_waiting) pc_Model_waiting (pc_Model_waiting b) (cd_Model_waiting b) = true
  intro b
  match b with
  | 0 => exact fit_Model_waiting_0
  | 1 => exact fit_Model_waiting_1
  | 2 => exact fit_Model_waiting_2
  | 3 => exact fit_Model_waiting_3
  | 4 => exact fit_Model_waiting_4
  | 5 => exact fit_Model_waiting_5
  | 6 => exact fit_Model_waiting_6
  | 7 => exact fit_Model_waiting_7
  | n + 8 => rfl
theorem fitM_Model_made : sm_FitM kModel_made := by
  show ∀ b, sm_fit (lt_R kModel_made) (lt_n kModel_made) (lt_fl kModel_made).1 (lt_fl kModel_made).2 (lt_r kModel_made) (lt_b kModel_made) pc_Model_made (pc_Model_made b) (cd_Model_made b) = true
  intro b
  match b with
  | 0 => exact fit_Model_made_0
  | n + 1 => rfl
theorem fitM_Model_drops : sm_FitM kModel_drops := by
  show ∀ b, sm_fit (lt_R kModel_drops) (lt_n kModel_drops) (lt_fl kModel_drops).1 (lt_fl kModel_drops).2 (lt_r kModel_drops) (lt_b kModel_drops) pc_Model_drops (pc_Model_drops b) (cd_Model_drops b) = true
  intro b
  match b with
  | 0 => exact fit_Model_drops_0
  | n + 1 => rfl
theorem fitM_Model_dropped : sm_FitM kModel_dropped := by
  show ∀ b, sm_fit (lt_R kModel_dropped) (lt_n kModel_dropped) (lt_fl kModel_dropped).1 (lt_fl kModel_dropped).2 (lt_r kModel_dropped) (lt_b kModel_dropped) pc_Model_dropped (pc_Model_dropped b) (cd_Model_dropped b) = true
  intro b
  match b with
  | 0 => exact fit_Model_dropped_0
  | 1 => exact fit_Model_dropped_1
  | 2 => exact fit_Model_dropped_2
  | 3 => exact fit_Model_dropped_3
  | 4 => exact fit_Model_dropped_4
  | 5 => exact fit_Model_dropped_5
  | 6 => exact fit_Model_dropped_6
  | n + 7 => rfl
theorem fa_1 : ∀ a, a < 1 → sm_FitM a := lt_s (lt_0 (p := sm_FitM)) fitM_Body_restart
theorem fa_2 : ∀ a, a < 2 → sm_FitM a := lt_s fa_1 fitM_Body_life
theorem fa_3 : ∀ a, a < 3 → sm_FitM a := lt_s fa_2 fitM_Body_broken
theorem fa_4 : ∀ a, a < 4 → sm_FitM a := lt_s fa_3 fitM_Body_spot
theorem fa_5 : ∀ a, a < 5 → sm_FitM a := lt_s fa_4 fitM_Body_goTo
theorem fa_6 : ∀ a, a < 6 → sm_FitM a := lt_s fa_5 fitM_Body_stepOf
theorem fa_7 : ∀ a, a < 7 → sm_FitM a := lt_s fa_6 fitM_Body_setStep
theorem fa_8 : ∀ a, a < 8 → sm_FitM a := lt_s fa_7 fitM_Body_valueOf
theorem fa_9 : ∀ a, a < 9 → sm_FitM a := lt_s fa_8 fitM_Body_kindOf
theorem fa_10 : ∀ a, a < 10 → sm_FitM a := lt_s fa_9 fitM_Body_hasNothing
theorem fa_11 : ∀ a, a < 11 → sm_FitM a := lt_s fa_10 fitM_Body_owns
theorem fa_12 : ∀ a, a < 12 → sm_FitM a := lt_s fa_11 fitM_Body_ownsLinear
theorem fa_13 : ∀ a, a < 13 → sm_FitM a := lt_s fa_12 fitM_Body_shares
theorem fa_14 : ∀ a, a < 14 → sm_FitM a := lt_s fa_13 fitM_Body_borrows
theorem fa_15 : ∀ a, a < 15 → sm_FitM a := lt_s fa_14 fitM_Body_isLapsed
theorem fa_16 : ∀ a, a < 16 → sm_FitM a := lt_s fa_15 fitM_Body_own
theorem fa_17 : ∀ a, a < 17 → sm_FitM a := lt_s fa_16 fitM_Body_move
theorem fa_18 : ∀ a, a < 18 → sm_FitM a := lt_s fa_17 fitM_Body_handOver
theorem fa_19 : ∀ a, a < 19 → sm_FitM a := lt_s fa_18 fitM_Body_free
theorem fa_20 : ∀ a, a < 20 → sm_FitM a := lt_s fa_19 fitM_Body_read
theorem fa_21 : ∀ a, a < 21 → sm_FitM a := lt_s fa_20 fitM_Body_write
theorem fa_22 : ∀ a, a < 22 → sm_FitM a := lt_s fa_21 fitM_Body_share
theorem fa_23 : ∀ a, a < 23 → sm_FitM a := lt_s fa_22 fitM_Body_lend
theorem fa_24 : ∀ a, a < 24 → sm_FitM a := lt_s fa_23 fitM_Body_borrow
theorem fa_25 : ∀ a, a < 25 → sm_FitM a := lt_s fa_24 fitM_Body_vacate
theorem fa_26 : ∀ a, a < 26 → sm_FitM a := lt_s fa_25 fitM_Body_clear
theorem fa_27 : ∀ a, a < 27 → sm_FitM a := lt_s fa_26 fitM_Body_endAll
theorem fa_28 : ∀ a, a < 28 → sm_FitM a := lt_s fa_27 fitM_Body_endShares
theorem fa_29 : ∀ a, a < 29 → sm_FitM a := lt_s fa_28 fitM_Body_endLoans
theorem fa_30 : ∀ a, a < 30 → sm_FitM a := lt_s fa_29 fitM_Body_die
theorem fa_31 : ∀ a, a < 31 → sm_FitM a := lt_s fa_30 fitM_Body_finish
theorem fa_32 : ∀ a, a < 32 → sm_FitM a := lt_s fa_31 fitM_Body_dropOwned
theorem fa_33 : ∀ a, a < 33 → sm_FitM a := lt_s fa_32 fitM_Body_latestOwner
theorem fa_34 : ∀ a, a < 34 → sm_FitM a := lt_s fa_33 fitM_Channels_size
theorem fa_35 : ∀ a, a < 35 → sm_FitM a := lt_s fa_34 fitM_Channels_isFull
theorem fa_36 : ∀ a, a < 36 → sm_FitM a := lt_s fa_35 fitM_Channels_have
theorem fa_37 : ∀ a, a < 37 → sm_FitM a := lt_s fa_36 fitM_Channels_add
theorem fa_38 : ∀ a, a < 38 → sm_FitM a := lt_s fa_37 fitM_Channels_turned
theorem fa_39 : ∀ a, a < 39 → sm_FitM a := lt_s fa_38 fitM_Channels_sideOf
theorem fa_40 : ∀ a, a < 40 → sm_FitM a := lt_s fa_39 fitM_Channels_beyond
theorem fa_41 : ∀ a, a < 41 → sm_FitM a := lt_s fa_40 fitM_Channels_askedOf
theorem fa_42 : ∀ a, a < 42 → sm_FitM a := lt_s fa_41 fitM_Channels_suit
theorem fa_43 : ∀ a, a < 43 → sm_FitM a := lt_s fa_42 fitM_Channels_kindAt
theorem fa_44 : ∀ a, a < 44 → sm_FitM a := lt_s fa_43 fitM_Channels_nextAt
theorem fa_45 : ∀ a, a < 45 → sm_FitM a := lt_s fa_44 fitM_Code_allows
theorem fa_46 : ∀ a, a < 46 → sm_FitM a := lt_s fa_45 fitM_Code_stepNeeded
theorem fa_47 : ∀ a, a < 47 → sm_FitM a := lt_s fa_46 fitM_Code_wrongWay
theorem fa_48 : ∀ a, a < 48 → sm_FitM a := lt_s fa_47 fitM_Code_size
theorem fa_49 : ∀ a, a < 49 → sm_FitM a := lt_s fa_48 fitM_Code_isFull
theorem fa_50 : ∀ a, a < 50 → sm_FitM a := lt_s fa_49 fitM_Code_add
theorem fa_51 : ∀ a, a < 51 → sm_FitM a := lt_s fa_50 fitM_Code_removeLast
theorem fa_52 : ∀ a, a < 52 → sm_FitM a := lt_s fa_51 fitM_Code_whatAt
theorem fa_53 : ∀ a, a < 53 → sm_FitM a := lt_s fa_52 fitM_Code_aAt
theorem fa_54 : ∀ a, a < 54 → sm_FitM a := lt_s fa_53 fitM_Code_bAt
theorem fa_55 : ∀ a, a < 55 → sm_FitM a := lt_s fa_54 fitM_Code_targetAt
theorem fa_56 : ∀ a, a < 56 → sm_FitM a := lt_s fa_55 fitM_Code_usedAt
theorem fa_57 : ∀ a, a < 57 → sm_FitM a := lt_s fa_56 fitM_Code_channelAt
theorem fa_58 : ∀ a, a < 58 → sm_FitM a := lt_s fa_57 fitM_Code_after
theorem fa_59 : ∀ a, a < 59 → sm_FitM a := lt_s fa_58 fitM_Code_jumpOf
theorem fa_60 : ∀ a, a < 60 → sm_FitM a := lt_s fa_59 fitM_Course_isOn
theorem fa_61 : ∀ a, a < 61 → sm_FitM a := lt_s fa_60 fitM_Course_stop
theorem fa_62 : ∀ a, a < 62 → sm_FitM a := lt_s fa_61 fitM_Course_restart
theorem fa_63 : ∀ a, a < 63 → sm_FitM a := lt_s fa_62 fitM_Course_body
theorem fa_64 : ∀ a, a < 64 → sm_FitM a := lt_s fa_63 fitM_Course_ledger
theorem fa_65 : ∀ a, a < 65 → sm_FitM a := lt_s fa_64 fitM_Course_countFor
theorem fa_66 : ∀ a, a < 66 → sm_FitM a := lt_s fa_65 fitM_Course_queueOf
theorem fa_67 : ∀ a, a < 67 → sm_FitM a := lt_s fa_66 fitM_Course_draw
theorem fa_68 : ∀ a, a < 68 → sm_FitM a := lt_s fa_67 fitM_Course_countReady
theorem fa_69 : ∀ a, a < 69 → sm_FitM a := lt_s fa_68 fitM_Course_readyAt
theorem fa_70 : ∀ a, a < 70 → sm_FitM a := lt_s fa_69 fitM_Course_isReady
theorem fa_71 : ∀ a, a < 71 → sm_FitM a := lt_s fa_70 fitM_Course_mustWait
theorem fa_72 : ∀ a, a < 72 → sm_FitM a := lt_s fa_71 fitM_Course_suits
theorem fa_73 : ∀ a, a < 73 → sm_FitM a := lt_s fa_72 fitM_Course_isBeyondDead
theorem fa_74 : ∀ a, a < 74 → sm_FitM a := lt_s fa_73 fitM_Course_advance
theorem fa_75 : ∀ a, a < 75 → sm_FitM a := lt_s fa_74 fitM_Course_endFault
theorem fa_76 : ∀ a, a < 76 → sm_FitM a := lt_s fa_75 fitM_Course_faultAt
theorem fa_77 : ∀ a, a < 77 → sm_FitM a := lt_s fa_76 fitM_Course_kindAt
theorem fa_78 : ∀ a, a < 78 → sm_FitM a := lt_s fa_77 fitM_Course_messageFault
theorem fa_79 : ∀ a, a < 79 → sm_FitM a := lt_s fa_78 fitM_Course_dropWaiting
theorem fa_80 : ∀ a, a < 80 → sm_FitM a := lt_s fa_79 fitM_Course_perform
theorem fa_81 : ∀ a, a < 81 → sm_FitM a := lt_s fa_80 fitM_Course_post
theorem fa_82 : ∀ a, a < 82 → sm_FitM a := lt_s fa_81 fitM_Course_receive
theorem fa_83 : ∀ a, a < 83 → sm_FitM a := lt_s fa_82 fitM_Flow_forget
theorem fa_84 : ∀ a, a < 84 → sm_FitM a := lt_s fa_83 fitM_Flow_find
theorem fa_85 : ∀ a, a < 85 → sm_FitM a := lt_s fa_84 fitM_Flow_errorOp
theorem fa_86 : ∀ a, a < 86 → sm_FitM a := lt_s fa_85 fitM_Flow_firstError
theorem fa_87 : ∀ a, a < 87 → sm_FitM a := lt_s fa_86 fitM_Flow_inTheWay
theorem fa_88 : ∀ a, a < 88 → sm_FitM a := lt_s fa_87 fitM_Flow_isComeTo
theorem fa_89 : ∀ a, a < 89 → sm_FitM a := lt_s fa_88 fitM_Flow_nameAt
theorem fa_90 : ∀ a, a < 90 → sm_FitM a := lt_s fa_89 fitM_Flow_stepAt
theorem fa_91 : ∀ a, a < 91 → sm_FitM a := lt_s fa_90 fitM_Flow_livesAt
theorem fa_92 : ∀ a, a < 92 → sm_FitM a := lt_s fa_91 fitM_Flow_followAll
theorem fa_93 : ∀ a, a < 93 → sm_FitM a := lt_s fa_92 fitM_Flow_follow
theorem fa_94 : ∀ a, a < 94 → sm_FitM a := lt_s fa_93 fitM_Flow_goOn
theorem fa_95 : ∀ a, a < 95 → sm_FitM a := lt_s fa_94 fitM_Flow_changeNames
theorem fa_96 : ∀ a, a < 96 → sm_FitM a := lt_s fa_95 fitM_Flow_gotten
theorem fa_97 : ∀ a, a < 97 → sm_FitM a := lt_s fa_96 fitM_Flow_taken
theorem fa_98 : ∀ a, a < 98 → sm_FitM a := lt_s fa_97 fitM_Flow_reach
theorem fa_99 : ∀ a, a < 99 → sm_FitM a := lt_s fa_98 fitM_Flow_together
theorem fa_100 : ∀ a, a < 100 → sm_FitM a := lt_s fa_99 fitM_Flow_isMaybeAffine
theorem fa_101 : ∀ a, a < 101 → sm_FitM a := lt_s fa_100 fitM_Flow_isOwner
theorem fa_102 : ∀ a, a < 102 → sm_FitM a := lt_s fa_101 fitM_Flow_isShared
theorem fa_103 : ∀ a, a < 103 → sm_FitM a := lt_s fa_102 fitM_Flow_isLent
theorem fa_104 : ∀ a, a < 104 → sm_FitM a := lt_s fa_103 fitM_Flow_isTakenAway
theorem fa_105 : ∀ a, a < 105 → sm_FitM a := lt_s fa_104 fitM_Flow_findLives
theorem fa_106 : ∀ a, a < 106 → sm_FitM a := lt_s fa_105 fitM_Flow_livesBehind
theorem fa_107 : ∀ a, a < 107 → sm_FitM a := lt_s fa_106 fitM_Flow_bit
theorem fa_108 : ∀ a, a < 108 → sm_FitM a := lt_s fa_107 fitM_Flow_findError
theorem fa_109 : ∀ a, a < 109 → sm_FitM a := lt_s fa_108 fitM_Flow_errorAt
theorem fa_110 : ∀ a, a < 110 → sm_FitM a := lt_s fa_109 fitM_Flow_isUnlike
theorem fa_111 : ∀ a, a < 111 → sm_FitM a := lt_s fa_110 fitM_Flow_endErrorAt
theorem fa_112 : ∀ a, a < 112 → sm_FitM a := lt_s fa_111 fitM_Flow_isWrongKind
theorem fa_113 : ∀ a, a < 113 → sm_FitM a := lt_s fa_112 fitM_Flow_isOutOfSession
theorem fa_114 : ∀ a, a < 114 → sm_FitM a := lt_s fa_113 fitM_Flow_borrowerAt
theorem fa_115 : ∀ a, a < 115 → sm_FitM a := lt_s fa_114 fitM_Flow_leavesShares
theorem fa_116 : ∀ a, a < 116 → sm_FitM a := lt_s fa_115 fitM_Flow_lowestBorrower
theorem fa_117 : ∀ a, a < 117 → sm_FitM a := lt_s fa_116 fitM_Layouts_forget
theorem fa_118 : ∀ a, a < 118 → sm_FitM a := lt_s fa_117 fitM_Layouts_answer
theorem fa_119 : ∀ a, a < 119 → sm_FitM a := lt_s fa_118 fitM_Layouts_search
theorem fa_120 : ∀ a, a < 120 → sm_FitM a := lt_s fa_119 fitM_Layouts_goOn
theorem fa_121 : ∀ a, a < 121 → sm_FitM a := lt_s fa_120 fitM_Layouts_reach
theorem fa_122 : ∀ a, a < 122 → sm_FitM a := lt_s fa_121 fitM_Layouts_keep
theorem fa_123 : ∀ a, a < 123 → sm_FitM a := lt_s fa_122 fitM_Layouts_allEnded
theorem fa_124 : ∀ a, a < 124 → sm_FitM a := lt_s fa_123 fitM_Layouts_hasEnded
theorem fa_125 : ∀ a, a < 125 → sm_FitM a := lt_s fa_124 fitM_Layouts_next
theorem fa_126 : ∀ a, a < 126 → sm_FitM a := lt_s fa_125 fitM_Layouts_moved
theorem fa_127 : ∀ a, a < 127 → sm_FitM a := lt_s fa_126 fitM_Layouts_posted
theorem fa_128 : ∀ a, a < 128 → sm_FitM a := lt_s fa_127 fitM_Layouts_received
theorem fa_129 : ∀ a, a < 129 → sm_FitM a := lt_s fa_128 fitM_Layouts_messageAt
theorem fa_130 : ∀ a, a < 130 → sm_FitM a := lt_s fa_129 fitM_Layouts_shiftOf
theorem fa_131 : ∀ a, a < 131 → sm_FitM a := lt_s fa_130 fitM_Ledger_clear
theorem fa_132 : ∀ a, a < 132 → sm_FitM a := lt_s fa_131 fitM_Ledger_numbered
theorem fa_133 : ∀ a, a < 133 → sm_FitM a := lt_s fa_132 fitM_Ledger_told
theorem fa_134 : ∀ a, a < 134 → sm_FitM a := lt_s fa_133 fitM_Ledger_droppedAt
theorem fa_135 : ∀ a, a < 135 → sm_FitM a := lt_s fa_134 fitM_Ledger_newValue
theorem fa_136 : ∀ a, a < 136 → sm_FitM a := lt_s fa_135 fitM_Ledger_newTime
theorem fa_137 : ∀ a, a < 137 → sm_FitM a := lt_s fa_136 fitM_Ledger_drop
theorem fa_138 : ∀ a, a < 138 → sm_FitM a := lt_s fa_137 fitM_Messages_clear
theorem fa_139 : ∀ a, a < 139 → sm_FitM a := lt_s fa_138 fitM_Messages_size
theorem fa_140 : ∀ a, a < 140 → sm_FitM a := lt_s fa_139 fitM_Messages_valueAt
theorem fa_141 : ∀ a, a < 141 → sm_FitM a := lt_s fa_140 fitM_Messages_firstMark
theorem fa_142 : ∀ a, a < 142 → sm_FitM a := lt_s fa_141 fitM_Messages_add
theorem fa_143 : ∀ a, a < 143 → sm_FitM a := lt_s fa_142 fitM_Messages_removeFirst
theorem fa_144 : ∀ a, a < 144 → sm_FitM a := lt_s fa_143 fitM_Messages_empty
theorem fa_145 : ∀ a, a < 145 → sm_FitM a := lt_s fa_144 fitM_Protocol_allows
theorem fa_146 : ∀ a, a < 146 → sm_FitM a := lt_s fa_145 fitM_Protocol_size
theorem fa_147 : ∀ a, a < 147 → sm_FitM a := lt_s fa_146 fitM_Protocol_isFull
theorem fa_148 : ∀ a, a < 148 → sm_FitM a := lt_s fa_147 fitM_Protocol_add
theorem fa_149 : ∀ a, a < 149 → sm_FitM a := lt_s fa_148 fitM_Protocol_isWhole
theorem fa_150 : ∀ a, a < 150 → sm_FitM a := lt_s fa_149 fitM_Protocol_whatAt
theorem fa_151 : ∀ a, a < 151 → sm_FitM a := lt_s fa_150 fitM_Protocol_kindAt
theorem fa_152 : ∀ a, a < 152 → sm_FitM a := lt_s fa_151 fitM_Protocol_nextAt
theorem fa_153 : ∀ a, a < 153 → sm_FitM a := lt_s fa_152 fitM_Top_step
theorem fa_154 : ∀ a, a < 154 → sm_FitM a := lt_s fa_153 fitM_Top_channel
theorem fa_155 : ∀ a, a < 155 → sm_FitM a := lt_s fa_154 fitM_Top_op
theorem fa_156 : ∀ a, a < 156 → sm_FitM a := lt_s fa_155 fitM_Top_unop
theorem fa_157 : ∀ a, a < 157 → sm_FitM a := lt_s fa_156 fitM_Top_check
theorem fa_158 : ∀ a, a < 158 → sm_FitM a := lt_s fa_157 fitM_Top_error
theorem fa_159 : ∀ a, a < 159 → sm_FitM a := lt_s fa_158 fitM_Top_borrower
theorem fa_160 : ∀ a, a < 160 → sm_FitM a := lt_s fa_159 fitM_Top_holds
theorem fa_161 : ∀ a, a < 161 → sm_FitM a := lt_s fa_160 fitM_Top_at
theorem fa_162 : ∀ a, a < 162 → sm_FitM a := lt_s fa_161 fitM_Top_lives
theorem fa_163 : ∀ a, a < 163 → sm_FitM a := lt_s fa_162 fitM_Top_stuck
theorem fa_164 : ∀ a, a < 164 → sm_FitM a := lt_s fa_163 fitM_Top_begin
theorem fa_165 : ∀ a, a < 165 → sm_FitM a := lt_s fa_164 fitM_Top_go
theorem fa_166 : ∀ a, a < 166 → sm_FitM a := lt_s fa_165 fitM_Top_run
theorem fa_167 : ∀ a, a < 167 → sm_FitM a := lt_s fa_166 fitM_Top_state
theorem fa_168 : ∀ a, a < 168 → sm_FitM a := lt_s fa_167 fitM_Top_fault
theorem fa_169 : ∀ a, a < 169 → sm_FitM a := lt_s fa_168 fitM_Top_place
theorem fa_170 : ∀ a, a < 170 → sm_FitM a := lt_s fa_169 fitM_Top_value
theorem fa_171 : ∀ a, a < 171 → sm_FitM a := lt_s fa_170 fitM_Top_waiting
theorem fa_172 : ∀ a, a < 172 → sm_FitM a := lt_s fa_171 fitM_Top_made
theorem fa_173 : ∀ a, a < 173 → sm_FitM a := lt_s fa_172 fitM_Top_drops
theorem fa_174 : ∀ a, a < 174 → sm_FitM a := lt_s fa_173 fitM_Top_dropped
theorem fa_175 : ∀ a, a < 175 → sm_FitM a := lt_s fa_174 fitM_Top_forget
theorem fa_176 : ∀ a, a < 176 → sm_FitM a := lt_s fa_175 fitM_Top_isAhead
theorem fa_177 : ∀ a, a < 177 → sm_FitM a := lt_s fa_176 fitM_Top_within
theorem fa_178 : ∀ a, a < 178 → sm_FitM a := lt_s fa_177 fitM_Model_thrown
theorem fa_179 : ∀ a, a < 179 → sm_FitM a := lt_s fa_178 fitM_Model_in
theorem fa_180 : ∀ a, a < 180 → sm_FitM a := lt_s fa_179 fitM_Model_isThird
theorem fa_181 : ∀ a, a < 181 → sm_FitM a := lt_s fa_180 fitM_Model_step
theorem fa_182 : ∀ a, a < 182 → sm_FitM a := lt_s fa_181 fitM_Model_goesBeyond
theorem fa_183 : ∀ a, a < 183 → sm_FitM a := lt_s fa_182 fitM_Model_channel
theorem fa_184 : ∀ a, a < 184 → sm_FitM a := lt_s fa_183 fitM_Model_changed
theorem fa_185 : ∀ a, a < 185 → sm_FitM a := lt_s fa_184 fitM_Model_isOp
theorem fa_186 : ∀ a, a < 186 → sm_FitM a := lt_s fa_185 fitM_Model_op
theorem fa_187 : ∀ a, a < 187 → sm_FitM a := lt_s fa_186 fitM_Model_unop
theorem fa_188 : ∀ a, a < 188 → sm_FitM a := lt_s fa_187 fitM_Model_usedBy
theorem fa_189 : ∀ a, a < 189 → sm_FitM a := lt_s fa_188 fitM_Model_targetOf
theorem fa_190 : ∀ a, a < 190 → sm_FitM a := lt_s fa_189 fitM_Model_isOf
theorem fa_191 : ∀ a, a < 191 → sm_FitM a := lt_s fa_190 fitM_Model_stepFor
theorem fa_192 : ∀ a, a < 192 → sm_FitM a := lt_s fa_191 fitM_Model_stepKind
theorem fa_193 : ∀ a, a < 193 → sm_FitM a := lt_s fa_192 fitM_Model_stepThen
theorem fa_194 : ∀ a, a < 194 → sm_FitM a := lt_s fa_193 fitM_Model_needs
theorem fa_195 : ∀ a, a < 195 → sm_FitM a := lt_s fa_194 fitM_Model_next
theorem fa_196 : ∀ a, a < 196 → sm_FitM a := lt_s fa_195 fitM_Model_hasOther
theorem fa_197 : ∀ a, a < 197 → sm_FitM a := lt_s fa_196 fitM_Model_isStop
theorem fa_198 : ∀ a, a < 198 → sm_FitM a := lt_s fa_197 fitM_Model_isOwner
theorem fa_199 : ∀ a, a < 199 → sm_FitM a := lt_s fa_198 fitM_Model_together
theorem fa_200 : ∀ a, a < 200 → sm_FitM a := lt_s fa_199 fitM_Model_comesTo
theorem fa_201 : ∀ a, a < 201 → sm_FitM a := lt_s fa_200 fitM_Model_moves
theorem fa_202 : ∀ a, a < 202 → sm_FitM a := lt_s fa_201 fitM_Model_does
theorem fa_203 : ∀ a, a < 203 → sm_FitM a := lt_s fa_202 fitM_Model_goesOn
theorem fa_204 : ∀ a, a < 204 → sm_FitM a := lt_s fa_203 fitM_Model_livesBehind
theorem fa_205 : ∀ a, a < 205 → sm_FitM a := lt_s fa_204 fitM_Model_findsLiving
theorem fa_206 : ∀ a, a < 206 → sm_FitM a := lt_s fa_205 fitM_Model_finds
theorem fa_207 : ∀ a, a < 207 → sm_FitM a := lt_s fa_206 fitM_Model_findsAll
theorem fa_208 : ∀ a, a < 208 → sm_FitM a := lt_s fa_207 fitM_Model_foundAt
theorem fa_209 : ∀ a, a < 209 → sm_FitM a := lt_s fa_208 fitM_Model_borrowerOf
theorem fa_210 : ∀ a, a < 210 → sm_FitM a := lt_s fa_209 fitM_Model_inTheWayOf
theorem fa_211 : ∀ a, a < 211 → sm_FitM a := lt_s fa_210 fitM_Model_isWrongUse
theorem fa_212 : ∀ a, a < 212 → sm_FitM a := lt_s fa_211 fitM_Model_errorOfEnd
theorem fa_213 : ∀ a, a < 213 → sm_FitM a := lt_s fa_212 fitM_Model_errorOf
theorem fa_214 : ∀ a, a < 214 → sm_FitM a := lt_s fa_213 fitM_Model_firstError
theorem fa_215 : ∀ a, a < 215 → sm_FitM a := lt_s fa_214 fitM_Model_check
theorem fa_216 : ∀ a, a < 216 → sm_FitM a := lt_s fa_215 fitM_Model_error
theorem fa_217 : ∀ a, a < 217 → sm_FitM a := lt_s fa_216 fitM_Model_borrower
theorem fa_218 : ∀ a, a < 218 → sm_FitM a := lt_s fa_217 fitM_Model_isNode
theorem fa_219 : ∀ a, a < 219 → sm_FitM a := lt_s fa_218 fitM_Model_holds
theorem fa_220 : ∀ a, a < 220 → sm_FitM a := lt_s fa_219 fitM_Model_at
theorem fa_221 : ∀ a, a < 221 → sm_FitM a := lt_s fa_220 fitM_Model_lives
theorem fa_222 : ∀ a, a < 222 → sm_FitM a := lt_s fa_221 fitM_Model_waits
theorem fa_223 : ∀ a, a < 223 → sm_FitM a := lt_s fa_222 fitM_Model_reads
theorem fa_224 : ∀ a, a < 224 → sm_FitM a := lt_s fa_223 fitM_Model_keeps
theorem fa_225 : ∀ a, a < 225 → sm_FitM a := lt_s fa_224 fitM_Model_sideOf
theorem fa_226 : ∀ a, a < 226 → sm_FitM a := lt_s fa_225 fitM_Model_stepsOn
theorem fa_227 : ∀ a, a < 227 → sm_FitM a := lt_s fa_226 fitM_Model_stuck
theorem fa_228 : ∀ a, a < 228 → sm_FitM a := lt_s fa_227 fitM_Model_begin
theorem fa_229 : ∀ a, a < 229 → sm_FitM a := lt_s fa_228 fitM_Model_goesAway
theorem fa_230 : ∀ a, a < 230 → sm_FitM a := lt_s fa_229 fitM_Model_ownerOf
theorem fa_231 : ∀ a, a < 231 → sm_FitM a := lt_s fa_230 fitM_Model_holdsStill
theorem fa_232 : ∀ a, a < 232 → sm_FitM a := lt_s fa_231 fitM_Model_leaves
theorem fa_233 : ∀ a, a < 233 → sm_FitM a := lt_s fa_232 fitM_Model_owns
theorem fa_234 : ∀ a, a < 234 → sm_FitM a := lt_s fa_233 fitM_Model_uses
theorem fa_235 : ∀ a, a < 235 → sm_FitM a := lt_s fa_234 fitM_Model_isAtNeeded
theorem fa_236 : ∀ a, a < 236 → sm_FitM a := lt_s fa_235 fitM_Model_otherOf
theorem fa_237 : ∀ a, a < 237 → sm_FitM a := lt_s fa_236 fitM_Model_isWaiting
theorem fa_238 : ∀ a, a < 238 → sm_FitM a := lt_s fa_237 fitM_Model_broken
theorem fa_239 : ∀ a, a < 239 → sm_FitM a := lt_s fa_238 fitM_Model_brokenByMessage
theorem fa_240 : ∀ a, a < 240 → sm_FitM a := lt_s fa_239 fitM_Model_dropsOwned
theorem fa_241 : ∀ a, a < 241 → sm_FitM a := lt_s fa_240 fitM_Model_dies
theorem fa_242 : ∀ a, a < 242 → sm_FitM a := lt_s fa_241 fitM_Model_ends
theorem fa_243 : ∀ a, a < 243 → sm_FitM a := lt_s fa_242 fitM_Model_goesOver
theorem fa_244 : ∀ a, a < 244 → sm_FitM a := lt_s fa_243 fitM_Model_takes
theorem fa_245 : ∀ a, a < 245 → sm_FitM a := lt_s fa_244 fitM_Model_copied
theorem fa_246 : ∀ a, a < 246 → sm_FitM a := lt_s fa_245 fitM_Model_movesOver
theorem fa_247 : ∀ a, a < 247 → sm_FitM a := lt_s fa_246 fitM_Model_sharesOn
theorem fa_248 : ∀ a, a < 248 → sm_FitM a := lt_s fa_247 fitM_Model_sends
theorem fa_249 : ∀ a, a < 249 → sm_FitM a := lt_s fa_248 fitM_Model_carriesOut
theorem fa_250 : ∀ a, a < 250 → sm_FitM a := lt_s fa_249 fitM_Model_goesFurther
theorem fa_251 : ∀ a, a < 251 → sm_FitM a := lt_s fa_250 fitM_Model_go
theorem fa_252 : ∀ a, a < 252 → sm_FitM a := lt_s fa_251 fitM_Model_canGo
theorem fa_253 : ∀ a, a < 253 → sm_FitM a := lt_s fa_252 fitM_Model_run
theorem fa_254 : ∀ a, a < 254 → sm_FitM a := lt_s fa_253 fitM_Model_canRun
theorem fa_255 : ∀ a, a < 255 → sm_FitM a := lt_s fa_254 fitM_Model_isAsked
theorem fa_256 : ∀ a, a < 256 → sm_FitM a := lt_s fa_255 fitM_Model_state
theorem fa_257 : ∀ a, a < 257 → sm_FitM a := lt_s fa_256 fitM_Model_fault
theorem fa_258 : ∀ a, a < 258 → sm_FitM a := lt_s fa_257 fitM_Model_place
theorem fa_259 : ∀ a, a < 259 → sm_FitM a := lt_s fa_258 fitM_Model_value
theorem fa_260 : ∀ a, a < 260 → sm_FitM a := lt_s fa_259 fitM_Model_waiting
theorem fa_261 : ∀ a, a < 261 → sm_FitM a := lt_s fa_260 fitM_Model_made
theorem fa_262 : ∀ a, a < 262 → sm_FitM a := lt_s fa_261 fitM_Model_drops
theorem fa_263 : ∀ a, a < 263 → sm_FitM a := lt_s fa_262 fitM_Model_dropped
