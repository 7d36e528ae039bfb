theorem mLaw_ok : mLawOK := fun L xs hL => law_end hL
theorem i_vc : Claimed_1_1 ∧ Claimed_1_2 := i_vc_open mLaw_ok
