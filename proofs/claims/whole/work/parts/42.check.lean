set_option maxRecDepth 100000 in
theorem zt_ck0 : (zc 0).all (zw_ck (zt_M 0).2.1 (zt_M 0).2.2.2.2 (zt_M 0).2.2.1 (zt_M 0).2.2.2.1 zt_tb zt_np) = true := by decide +kernel
set_option maxRecDepth 100000 in
theorem zt_ck1 : (zc 1).all (zw_ck (zt_M 1).2.1 (zt_M 1).2.2.2.2 (zt_M 1).2.2.1 (zt_M 1).2.2.2.1 zt_tb zt_np) = true := by decide +kernel
set_option maxRecDepth 100000 in
theorem zt_ck2 : (zc 2).all (zw_ck (zt_M 2).2.1 (zt_M 2).2.2.2.2 (zt_M 2).2.2.1 (zt_M 2).2.2.2.1 zt_tb zt_np) = true := by decide +kernel
set_option maxRecDepth 100000 in
theorem zt_ck3 : (zc 3).all (zw_ck (zt_M 3).2.1 (zt_M 3).2.2.2.2 (zt_M 3).2.2.1 (zt_M 3).2.2.2.1 zt_tb zt_np) = true := by decide +kernel
set_option maxRecDepth 100000 in
theorem zt_ck4 : (zc 4).all (zw_ck (zt_M 4).2.1 (zt_M 4).2.2.2.2 (zt_M 4).2.2.1 (zt_M 4).2.2.2.1 zt_tb zt_np) = true := by decide +kernel
set_option maxRecDepth 100000 in
theorem zt_ck5 : (zc 5).all (zw_ck (zt_M 5).2.1 (zt_M 5).2.2.2.2 (zt_M 5).2.2.1 (zt_M 5).2.2.2.1 zt_tb zt_np) = true := by decide +kernel
set_option maxRecDepth 100000 in
theorem zt_ck6 : (zc 6).all (zw_ck (zt_M 6).2.1 (zt_M 6).2.2.2.2 (zt_M 6).2.2.1 (zt_M 6).2.2.2.1 zt_tb zt_np) = true := by decide +kernel
set_option maxRecDepth 100000 in
theorem zt_ck7 : (zc 7).all (zw_ck (zt_M 7).2.1 (zt_M 7).2.2.2.2 (zt_M 7).2.2.1 (zt_M 7).2.2.2.1 zt_tb zt_np) = true := by decide +kernel
set_option maxRecDepth 100000 in
theorem zt_ck8 : (zc 8).all (zw_ck (zt_M 8).2.1 (zt_M 8).2.2.2.2 (zt_M 8).2.2.1 (zt_M 8).2.2.2.1 zt_tb zt_np) = true := by decide +kernel
set_option maxRecDepth 100000 in
theorem zt_ck9 : (zc 9).all (zw_ck (zt_M 9).2.1 (zt_M 9).2.2.2.2 (zt_M 9).2.2.1 (zt_M 9).2.2.2.1 zt_tb zt_np) = true := by decide +kernel
set_option maxRecDepth 100000 in
theorem zt_ck10 : (zc 10).all (zw_ck (zt_M 10).2.1 (zt_M 10).2.2.2.2 (zt_M 10).2.2.1 (zt_M 10).2.2.2.1 zt_tb zt_np) = true := by decide +kernel
set_option maxRecDepth 100000 in
theorem zt_ck11 : (zc 11).all (zw_ck (zt_M 11).2.1 (zt_M 11).2.2.2.2 (zt_M 11).2.2.1 (zt_M 11).2.2.2.1 zt_tb zt_np) = true := by decide +kernel
set_option maxRecDepth 100000 in
theorem zt_ck12 : (zc 12).all (zw_ck (zt_M 12).2.1 (zt_M 12).2.2.2.2 (zt_M 12).2.2.1 (zt_M 12).2.2.2.1 zt_tb zt_np) = true := by decide +kernel
set_option maxRecDepth 100000 in
theorem zt_ck13 : (zc 13).all (zw_ck (zt_M 13).2.1 (zt_M 13).2.2.2.2 (zt_M 13).2.2.1 (zt_M 13).2.2.2.1 zt_tb zt_np) = true := by decide +kernel
set_option maxRecDepth 100000 in
theorem zt_ck14 : (zc 14).all (zw_ck (zt_M 14).2.1 (zt_M 14).2.2.2.2 (zt_M 14).2.2.1 (zt_M 14).2.2.2.1 zt_tb zt_np) = true := by decide +kernel
set_option maxRecDepth 100000 in
theorem zt_ck15 : (zc 15).all (zw_ck (zt_M 15).2.1 (zt_M 15).2.2.2.2 (zt_M 15).2.2.1 (zt_M 15).2.2.2.1 zt_tb zt_np) = true := by decide +kernel
set_option maxRecDepth 100000 in
theorem zt_ck16 : (zc 16).all (zw_ck (zt_M 16).2.1 (zt_M 16).2.2.2.2 (zt_M 16).2.2.1 (zt_M 16).2.2.2.1 zt_tb zt_np) = true := by decide +kernel
set_option maxRecDepth 100000 in
theorem zt_ck17 : (zc 17).all (zw_ck (zt_M 17).2.1 (zt_M 17).2.2.2.2 (zt_M 17).2.2.1 (zt_M 17).2.2.2.1 zt_tb zt_np) = true := by decide +kernel
set_option maxRecDepth 100000 in
theorem zt_ck18 : (zc 18).all (zw_ck (zt_M 18).2.1 (zt_M 18).2.2.2.2 (zt_M 18).2.2.1 (zt_M 18).2.2.2.1 zt_tb zt_np) = true := by decide +kernel
set_option maxRecDepth 100000 in
theorem zt_ck19 : (zc 19).all (zw_ck (zt_M 19).2.1 (zt_M 19).2.2.2.2 (zt_M 19).2.2.1 (zt_M 19).2.2.2.1 zt_tb zt_np) = true := by decide +kernel
set_option maxRecDepth 100000 in
theorem zt_ck20 : (zc 20).all (zw_ck (zt_M 20).2.1 (zt_M 20).2.2.2.2 (zt_M 20).2.2.1 (zt_M 20).2.2.2.1 zt_tb zt_np) = true := by decide +kernel
set_option maxRecDepth 100000 in
theorem zt_ck21 : (zc 21).all (zw_ck (zt_M 21).2.1 (zt_M 21).2.2.2.2 (zt_M 21).2.2.1 (zt_M 21).2.2.2.1 zt_tb zt_np) = true := by decide +kernel
set_option maxRecDepth 100000 in
theorem zt_ck22 : (zc 22).all (zw_ck (zt_M 22).2.1 (zt_M 22).2.2.2.2 (zt_M 22).2.2.1 (zt_M 22).2.2.2.1 zt_tb zt_np) = true := by decide +kernel
set_option maxRecDepth 100000 in
theorem zt_ck23 : (zc 23).all (zw_ck (zt_M 23).2.1 (zt_M 23).2.2.2.2 (zt_M 23).2.2.1 (zt_M 23).2.2.2.1 zt_tb zt_np) = true := by decide +kernel
set_option maxRecDepth 100000 in
theorem zt_ck24 : (zc 24).all (zw_ck (zt_M 24).2.1 (zt_M 24).2.2.2.2 (zt_M 24).2.2.1 (zt_M 24).2.2.2.1 zt_tb zt_np) = true := by decide +kernel
set_option maxRecDepth 100000 in
theorem zt_ck25 : (zc 25).all (zw_ck (zt_M 25).2.1 (zt_M 25).2.2.2.2 (zt_M 25).2.2.1 (zt_M 25).2.2.2.1 zt_tb zt_np) = true := by decide +kernel
set_option maxRecDepth 100000 in
theorem zt_ck26 : (zc 26).all (zw_ck (zt_M 26).2.1 (zt_M 26).2.2.2.2 (zt_M 26).2.2.1 (zt_M 26).2.2.2.1 zt_tb zt_np) = true := by decide +kernel
set_option maxRecDepth 100000 in
theorem zt_ck27 : (zc 27).all (zw_ck (zt_M 27).2.1 (zt_M 27).2.2.2.2 (zt_M 27).2.2.1 (zt_M 27).2.2.2.1 zt_tb zt_np) = true := by decide +kernel
set_option maxRecDepth 100000 in
theorem zt_ck28 : (zc 28).all (zw_ck (zt_M 28).2.1 (zt_M 28).2.2.2.2 (zt_M 28).2.2.1 (zt_M 28).2.2.2.1 zt_tb zt_np) = true := by decide +kernel
set_option maxRecDepth 100000 in
theorem zt_ck29 : (zc 29).all (zw_ck (zt_M 29).2.1 (zt_M 29).2.2.2.2 (zt_M 29).2.2.1 (zt_M 29).2.2.2.1 zt_tb zt_np) = true := by decide +kernel
set_option maxRecDepth 100000 in
theorem zt_ck30 : (zc 30).all (zw_ck (zt_M 30).2.1 (zt_M 30).2.2.2.2 (zt_M 30).2.2.1 (zt_M 30).2.2.2.1 zt_tb zt_np) = true := by decide +kernel
set_option maxRecDepth 100000 in
theorem zt_ck31 : (zc 31).all (zw_ck (zt_M 31).2.1 (zt_M 31).2.2.2.2 (zt_M 31).2.2.1 (zt_M 31).2.2.2.1 zt_tb zt_np) = true := by decide +kernel
set_option maxRecDepth 100000 in
theorem zt_ck32 : (zc 32).all (zw_ck (zt_M 32).2.1 (zt_M 32).2.2.2.2 (zt_M 32).2.2.1 (zt_M 32).2.2.2.1 zt_tb zt_np) = true := by decide +kernel
set_option maxRecDepth 100000 in
theorem zt_ck33 : (zc 33).all (zw_ck (zt_M 33).2.1 (zt_M 33).2.2.2.2 (zt_M 33).2.2.1 (zt_M 33).2.2.2.1 zt_tb zt_np) = true := by decide +kernel
set_option maxRecDepth 100000 in
theorem zt_ck34 : (zc 34).all (zw_ck (zt_M 34).2.1 (zt_M 34).2.2.2.2 (zt_M 34).2.2.1 (zt_M 34).2.2.2.1 zt_tb zt_np) = true := by decide +kernel
set_option maxRecDepth 100000 in
theorem zt_ck35 : (zc 35).all (zw_ck (zt_M 35).2.1 (zt_M 35).2.2.2.2 (zt_M 35).2.2.1 (zt_M 35).2.2.2.1 zt_tb zt_np) = true := by decide +kernel
set_option maxRecDepth 100000 in
theorem zt_ck36 : (zc 36).all (zw_ck (zt_M 36).2.1 (zt_M 36).2.2.2.2 (zt_M 36).2.2.1 (zt_M 36).2.2.2.1 zt_tb zt_np) = true := by decide +kernel
set_option maxRecDepth 100000 in
theorem zt_ck37 : (zc 37).all (zw_ck (zt_M 37).2.1 (zt_M 37).2.2.2.2 (zt_M 37).2.2.1 (zt_M 37).2.2.2.1 zt_tb zt_np) = true := by decide +kernel
set_option maxRecDepth 100000 in
theorem zt_ck38 : (zc 38).all (zw_ck (zt_M 38).2.1 (zt_M 38).2.2.2.2 (zt_M 38).2.2.1 (zt_M 38).2.2.2.1 zt_tb zt_np) = true := by decide +kernel
set_option maxRecDepth 100000 in
theorem zt_ck39 : (zc 39).all (zw_ck (zt_M 39).2.1 (zt_M 39).2.2.2.2 (zt_M 39).2.2.1 (zt_M 39).2.2.2.1 zt_tb zt_np) = true := by decide +kernel
set_option maxRecDepth 100000 in
theorem zt_ck40 : (zc 40).all (zw_ck (zt_M 40).2.1 (zt_M 40).2.2.2.2 (zt_M 40).2.2.1 (zt_M 40).2.2.2.1 zt_tb zt_np) = true := by decide +kernel
set_option maxRecDepth 100000 in
theorem zt_ck41 : (zc 41).all (zw_ck (zt_M 41).2.1 (zt_M 41).2.2.2.2 (zt_M 41).2.2.1 (zt_M 41).2.2.2.1 zt_tb zt_np) = true := by decide +kernel
set_option maxRecDepth 100000 in
theorem zt_ck42 : (zc 42).all (zw_ck (zt_M 42).2.1 (zt_M 42).2.2.2.2 (zt_M 42).2.2.1 (zt_M 42).2.2.2.1 zt_tb zt_np) = true := by decide +kernel
set_option maxRecDepth 100000 in
theorem zt_ck43 : (zc 43).all (zw_ck (zt_M 43).2.1 (zt_M 43).2.2.2.2 (zt_M 43).2.2.1 (zt_M 43).2.2.2.1 zt_tb zt_np) = true := by decide +kernel
set_option maxRecDepth 100000 in
theorem zt_ck44 : (zc 44).all (zw_ck (zt_M 44).2.1 (zt_M 44).2.2.2.2 (zt_M 44).2.2.1 (zt_M 44).2.2.2.1 zt_tb zt_np) = true := by decide +kernel
set_option maxRecDepth 100000 in
theorem zt_ck45 : (zc 45).all (zw_ck (zt_M 45).2.1 (zt_M 45).2.2.2.2 (zt_M 45).2.2.1 (zt_M 45).2.2.2.1 zt_tb zt_np) = true := by decide +kernel
set_option maxRecDepth 100000 in
theorem zt_ck46 : (zc 46).all (zw_ck (zt_M 46).2.1 (zt_M 46).2.2.2.2 (zt_M 46).2.2.1 (zt_M 46).2.2.2.1 zt_tb zt_np) = true := by decide +kernel
set_option maxRecDepth 100000 in
theorem zt_ck47 : (zc 47).all (zw_ck (zt_M 47).2.1 (zt_M 47).2.2.2.2 (zt_M 47).2.2.1 (zt_M 47).2.2.2.1 zt_tb zt_np) = true := by decide +kernel
set_option maxRecDepth 100000 in
theorem zt_ck48 : (zc 48).all (zw_ck (zt_M 48).2.1 (zt_M 48).2.2.2.2 (zt_M 48).2.2.1 (zt_M 48).2.2.2.1 zt_tb zt_np) = true := by decide +kernel
set_option maxRecDepth 100000 in
theorem zt_ck49 : (zc 49).all (zw_ck (zt_M 49).2.1 (zt_M 49).2.2.2.2 (zt_M 49).2.2.1 (zt_M 49).2.2.2.1 zt_tb zt_np) = true := by decide +kernel
set_option maxRecDepth 100000 in
theorem zt_ck50 : (zc 50).all (zw_ck (zt_M 50).2.1 (zt_M 50).2.2.2.2 (zt_M 50).2.2.1 (zt_M 50).2.2.2.1 zt_tb zt_np) = true := by decide +kernel
set_option maxRecDepth 100000 in
theorem zt_ck51 : (zc 51).all (zw_ck (zt_M 51).2.1 (zt_M 51).2.2.2.2 (zt_M 51).2.2.1 (zt_M 51).2.2.2.1 zt_tb zt_np) = true := by decide +kernel
set_option maxRecDepth 100000 in
theorem zt_ck52 : (zc 52).all (zw_ck (zt_M 52).2.1 (zt_M 52).2.2.2.2 (zt_M 52).2.2.1 (zt_M 52).2.2.2.1 zt_tb zt_np) = true := by decide +kernel
set_option maxRecDepth 100000 in
theorem zt_ck53 : (zc 53).all (zw_ck (zt_M 53).2.1 (zt_M 53).2.2.2.2 (zt_M 53).2.2.1 (zt_M 53).2.2.2.1 zt_tb zt_np) = true := by decide +kernel
set_option maxRecDepth 100000 in
theorem zt_ck54 : (zc 54).all (zw_ck (zt_M 54).2.1 (zt_M 54).2.2.2.2 (zt_M 54).2.2.1 (zt_M 54).2.2.2.1 zt_tb zt_np) = true := by decide +kernel
set_option maxRecDepth 100000 in
theorem zt_ck55 : (zc 55).all (zw_ck (zt_M 55).2.1 (zt_M 55).2.2.2.2 (zt_M 55).2.2.1 (zt_M 55).2.2.2.1 zt_tb zt_np) = true := by decide +kernel
set_option maxRecDepth 100000 in
theorem zt_ck56 : (zc 56).all (zw_ck (zt_M 56).2.1 (zt_M 56).2.2.2.2 (zt_M 56).2.2.1 (zt_M 56).2.2.2.1 zt_tb zt_np) = true := by decide +kernel
set_option maxRecDepth 100000 in
theorem zt_ck57 : (zc 57).all (zw_ck (zt_M 57).2.1 (zt_M 57).2.2.2.2 (zt_M 57).2.2.1 (zt_M 57).2.2.2.1 zt_tb zt_np) = true := by decide +kernel
set_option maxRecDepth 100000 in
theorem zt_ck58 : (zc 58).all (zw_ck (zt_M 58).2.1 (zt_M 58).2.2.2.2 (zt_M 58).2.2.1 (zt_M 58).2.2.2.1 zt_tb zt_np) = true := by decide +kernel
set_option maxRecDepth 100000 in
theorem zt_ck59 : (zc 59).all (zw_ck (zt_M 59).2.1 (zt_M 59).2.2.2.2 (zt_M 59).2.2.1 (zt_M 59).2.2.2.1 zt_tb zt_np) = true := by decide +kernel
set_option maxRecDepth 100000 in
theorem zt_ck60 : (zc 60).all (zw_ck (zt_M 60).2.1 (zt_M 60).2.2.2.2 (zt_M 60).2.2.1 (zt_M 60).2.2.2.1 zt_tb zt_np) = true := by decide +kernel
set_option maxRecDepth 100000 in
theorem zt_ck61 : (zc 61).all (zw_ck (zt_M 61).2.1 (zt_M 61).2.2.2.2 (zt_M 61).2.2.1 (zt_M 61).2.2.2.1 zt_tb zt_np) = true := by decide +kernel
set_option maxRecDepth 100000 in
theorem zt_ck62 : (zc 62).all (zw_ck (zt_M 62).2.1 (zt_M 62).2.2.2.2 (zt_M 62).2.2.1 (zt_M 62).2.2.2.1 zt_tb zt_np) = true := by decide +kernel
set_option maxRecDepth 100000 in
theorem zt_ck63 : (zc 63).all (zw_ck (zt_M 63).2.1 (zt_M 63).2.2.2.2 (zt_M 63).2.2.1 (zt_M 63).2.2.2.1 zt_tb zt_np) = true := by decide +kernel
set_option maxRecDepth 100000 in
theorem zt_ck64 : (zc 64).all (zw_ck (zt_M 64).2.1 (zt_M 64).2.2.2.2 (zt_M 64).2.2.1 (zt_M 64).2.2.2.1 zt_tb zt_np) = true := by decide +kernel
set_option maxRecDepth 100000 in
theorem zt_ck65 : (zc 65).all (zw_ck (zt_M 65).2.1 (zt_M 65).2.2.2.2 (zt_M 65).2.2.1 (zt_M 65).2.2.2.1 zt_tb zt_np) = true := by decide +kernel
set_option maxRecDepth 100000 in
theorem zt_ck66 : (zc 66).all (zw_ck (zt_M 66).2.1 (zt_M 66).2.2.2.2 (zt_M 66).2.2.1 (zt_M 66).2.2.2.1 zt_tb zt_np) = true := by decide +kernel
set_option maxRecDepth 100000 in
theorem zt_ck67 : (zc 67).all (zw_ck (zt_M 67).2.1 (zt_M 67).2.2.2.2 (zt_M 67).2.2.1 (zt_M 67).2.2.2.1 zt_tb zt_np) = true := by decide +kernel
set_option maxRecDepth 100000 in
theorem zt_ck68 : (zc 68).all (zw_ck (zt_M 68).2.1 (zt_M 68).2.2.2.2 (zt_M 68).2.2.1 (zt_M 68).2.2.2.1 zt_tb zt_np) = true := by decide +kernel
set_option maxRecDepth 100000 in
theorem zt_ck69 : (zc 69).all (zw_ck (zt_M 69).2.1 (zt_M 69).2.2.2.2 (zt_M 69).2.2.1 (zt_M 69).2.2.2.1 zt_tb zt_np) = true := by decide +kernel
set_option maxRecDepth 100000 in
theorem zt_ck70 : (zc 70).all (zw_ck (zt_M 70).2.1 (zt_M 70).2.2.2.2 (zt_M 70).2.2.1 (zt_M 70).2.2.2.1 zt_tb zt_np) = true := by decide +kernel
set_option maxRecDepth 100000 in
theorem zt_ck71 : (zc 71).all (zw_ck (zt_M 71).2.1 (zt_M 71).2.2.2.2 (zt_M 71).2.2.1 (zt_M 71).2.2.2.1 zt_tb zt_np) = true := by decide +kernel
set_option maxRecDepth 100000 in
theorem zt_ck72 : (zc 72).all (zw_ck (zt_M 72).2.1 (zt_M 72).2.2.2.2 (zt_M 72).2.2.1 (zt_M 72).2.2.2.1 zt_tb zt_np) = true := by decide +kernel
set_option maxRecDepth 100000 in
theorem zt_ck73 : (zc 73).all (zw_ck (zt_M 73).2.1 (zt_M 73).2.2.2.2 (zt_M 73).2.2.1 (zt_M 73).2.2.2.1 zt_tb zt_np) = true := by decide +kernel
set_option maxRecDepth 100000 in
theorem zt_ck74 : (zc 74).all (zw_ck (zt_M 74).2.1 (zt_M 74).2.2.2.2 (zt_M 74).2.2.1 (zt_M 74).2.2.2.1 zt_tb zt_np) = true := by decide +kernel
set_option maxRecDepth 100000 in
theorem zt_ck75 : (zc 75).all (zw_ck (zt_M 75).2.1 (zt_M 75).2.2.2.2 (zt_M 75).2.2.1 (zt_M 75).2.2.2.1 zt_tb zt_np) = true := by decide +kernel
set_option maxRecDepth 100000 in
theorem zt_ck76 : (zc 76).all (zw_ck (zt_M 76).2.1 (zt_M 76).2.2.2.2 (zt_M 76).2.2.1 (zt_M 76).2.2.2.1 zt_tb zt_np) = true := by decide +kernel
set_option maxRecDepth 100000 in
theorem zt_ck77 : (zc 77).all (zw_ck (zt_M 77).2.1 (zt_M 77).2.2.2.2 (zt_M 77).2.2.1 (zt_M 77).2.2.2.1 zt_tb zt_np) = true := by decide +kernel
set_option maxRecDepth 100000 in
theorem zt_ck78 : (zc 78).all (zw_ck (zt_M 78).2.1 (zt_M 78).2.2.2.2 (zt_M 78).2.2.1 (zt_M 78).2.2.2.1 zt_tb zt_np) = true := by decide +kernel
set_option maxRecDepth 100000 in
theorem zt_ck79 : (zc 79).all (zw_ck (zt_M 79).2.1 (zt_M 79).2.2.2.2 (zt_M 79).2.2.1 (zt_M 79).2.2.2.1 zt_tb zt_np) = true := by decide +kernel
set_option maxRecDepth 100000 in
theorem zt_ck80 : (zc 80).all (zw_ck (zt_M 80).2.1 (zt_M 80).2.2.2.2 (zt_M 80).2.2.1 (zt_M 80).2.2.2.1 zt_tb zt_np) = true := by decide +kernel
set_option maxRecDepth 100000 in
theorem zt_ck81 : (zc 81).all (zw_ck (zt_M 81).2.1 (zt_M 81).2.2.2.2 (zt_M 81).2.2.1 (zt_M 81).2.2.2.1 zt_tb zt_np) = true := by decide +kernel
set_option maxRecDepth 100000 in
theorem zt_ck82 : (zc 82).all (zw_ck (zt_M 82).2.1 (zt_M 82).2.2.2.2 (zt_M 82).2.2.1 (zt_M 82).2.2.2.1 zt_tb zt_np) = true := by decide +kernel
set_option maxRecDepth 100000 in
theorem zt_ck83 : (zc 83).all (zw_ck (zt_M 83).2.1 (zt_M 83).2.2.2.2 (zt_M 83).2.2.1 (zt_M 83).2.2.2.1 zt_tb zt_np) = true := by decide +kernel
set_option maxRecDepth 100000 in
theorem zt_ck84 : (zc 84).all (zw_ck (zt_M 84).2.1 (zt_M 84).2.2.2.2 (zt_M 84).2.2.1 (zt_M 84).2.2.2.1 zt_tb zt_np) = true := by decide +kernel
set_option maxRecDepth 100000 in
theorem zt_ck85 : (zc 85).all (zw_ck (zt_M 85).2.1 (zt_M 85).2.2.2.2 (zt_M 85).2.2.1 (zt_M 85).2.2.2.1 zt_tb zt_np) = true := by decide +kernel
set_option maxRecDepth 100000 in
theorem zt_ck86 : (zc 86).all (zw_ck (zt_M 86).2.1 (zt_M 86).2.2.2.2 (zt_M 86).2.2.1 (zt_M 86).2.2.2.1 zt_tb zt_np) = true := by decide +kernel
set_option maxRecDepth 100000 in
theorem zt_ck87 : (zc 87).all (zw_ck (zt_M 87).2.1 (zt_M 87).2.2.2.2 (zt_M 87).2.2.1 (zt_M 87).2.2.2.1 zt_tb zt_np) = true := by decide +kernel
set_option maxRecDepth 100000 in
theorem zt_ck88 : (zc 88).all (zw_ck (zt_M 88).2.1 (zt_M 88).2.2.2.2 (zt_M 88).2.2.1 (zt_M 88).2.2.2.1 zt_tb zt_np) = true := by decide +kernel
set_option maxRecDepth 100000 in
theorem zt_ck89 : (zc 89).all (zw_ck (zt_M 89).2.1 (zt_M 89).2.2.2.2 (zt_M 89).2.2.1 (zt_M 89).2.2.2.1 zt_tb zt_np) = true := by decide +kernel
set_option maxRecDepth 100000 in
theorem zt_ck90 : (zc 90).all (zw_ck (zt_M 90).2.1 (zt_M 90).2.2.2.2 (zt_M 90).2.2.1 (zt_M 90).2.2.2.1 zt_tb zt_np) = true := by decide +kernel
set_option maxRecDepth 100000 in
theorem zt_ck91 : (zc 91).all (zw_ck (zt_M 91).2.1 (zt_M 91).2.2.2.2 (zt_M 91).2.2.1 (zt_M 91).2.2.2.1 zt_tb zt_np) = true := by decide +kernel
set_option maxRecDepth 100000 in
theorem zt_ck92 : (zc 92).all (zw_ck (zt_M 92).2.1 (zt_M 92).2.2.2.2 (zt_M 92).2.2.1 (zt_M 92).2.2.2.1 zt_tb zt_np) = true := by decide +kernel
set_option maxRecDepth 100000 in
theorem zt_ck93 : (zc 93).all (zw_ck (zt_M 93).2.1 (zt_M 93).2.2.2.2 (zt_M 93).2.2.1 (zt_M 93).2.2.2.1 zt_tb zt_np) = true := by decide +kernel
set_option maxRecDepth 100000 in
theorem zt_ck94 : (zc 94).all (zw_ck (zt_M 94).2.1 (zt_M 94).2.2.2.2 (zt_M 94).2.2.1 (zt_M 94).2.2.2.1 zt_tb zt_np) = true := by decide +kernel
set_option maxRecDepth 100000 in
theorem zt_ck95 : (zc 95).all (zw_ck (zt_M 95).2.1 (zt_M 95).2.2.2.2 (zt_M 95).2.2.1 (zt_M 95).2.2.2.1 zt_tb zt_np) = true := by decide +kernel
set_option maxRecDepth 100000 in
theorem zt_ck96 : (zc 96).all (zw_ck (zt_M 96).2.1 (zt_M 96).2.2.2.2 (zt_M 96).2.2.1 (zt_M 96).2.2.2.1 zt_tb zt_np) = true := by decide +kernel
set_option maxRecDepth 100000 in
theorem zt_ck97 : (zc 97).all (zw_ck (zt_M 97).2.1 (zt_M 97).2.2.2.2 (zt_M 97).2.2.1 (zt_M 97).2.2.2.1 zt_tb zt_np) = true := by decide +kernel
set_option maxRecDepth 100000 in
theorem zt_ck98 : (zc 98).all (zw_ck (zt_M 98).2.1 (zt_M 98).2.2.2.2 (zt_M 98).2.2.1 (zt_M 98).2.2.2.1 zt_tb zt_np) = true := by decide +kernel
set_option maxRecDepth 100000 in
theorem zt_ck99 : (zc 99).all (zw_ck (zt_M 99).2.1 (zt_M 99).2.2.2.2 (zt_M 99).2.2.1 (zt_M 99).2.2.2.1 zt_tb zt_np) = true := by decide +kernel
set_option maxRecDepth 100000 in
theorem zt_ck100 : (zc 100).all (zw_ck (zt_M 100).2.1 (zt_M 100).2.2.2.2 (zt_M 100).2.2.1 (zt_M 100).2.2.2.1 zt_tb zt_np) = true := by decide +kernel
set_option maxRecDepth 100000 in
theorem zt_ck101 : (zc 101).all (zw_ck (zt_M 101).2.1 (zt_M 101).2.2.2.2 (zt_M 101).2.2.1 (zt_M 101).2.2.2.1 zt_tb zt_np) = true := by decide +kernel
set_option maxRecDepth 100000 in
theorem zt_ck102 : (zc 102).all (zw_ck (zt_M 102).2.1 (zt_M 102).2.2.2.2 (zt_M 102).2.2.1 (zt_M 102).2.2.2.1 zt_tb zt_np) = true := by decide +kernel
set_option maxRecDepth 100000 in
theorem zt_ck103 : (zc 103).all (zw_ck (zt_M 103).2.1 (zt_M 103).2.2.2.2 (zt_M 103).2.2.1 (zt_M 103).2.2.2.1 zt_tb zt_np) = true := by decide +kernel
set_option maxRecDepth 100000 in
theorem zt_ck104 : (zc 104).all (zw_ck (zt_M 104).2.1 (zt_M 104).2.2.2.2 (zt_M 104).2.2.1 (zt_M 104).2.2.2.1 zt_tb zt_np) = true := by decide +kernel
set_option maxRecDepth 100000 in
theorem zt_ck105 : (zc 105).all (zw_ck (zt_M 105).2.1 (zt_M 105).2.2.2.2 (zt_M 105).2.2.1 (zt_M 105).2.2.2.1 zt_tb zt_np) = true := by decide +kernel
set_option maxRecDepth 100000 in
theorem zt_ck106 : (zc 106).all (zw_ck (zt_M 106).2.1 (zt_M 106).2.2.2.2 (zt_M 106).2.2.1 (zt_M 106).2.2.2.1 zt_tb zt_np) = true := by decide +kernel
set_option maxRecDepth 100000 in
theorem zt_ck107 : (zc 107).all (zw_ck (zt_M 107).2.1 (zt_M 107).2.2.2.2 (zt_M 107).2.2.1 (zt_M 107).2.2.2.1 zt_tb zt_np) = true := by decide +kernel
set_option maxRecDepth 100000 in
theorem zt_ck108 : (zc 108).all (zw_ck (zt_M 108).2.1 (zt_M 108).2.2.2.2 (zt_M 108).2.2.1 (zt_M 108).2.2.2.1 zt_tb zt_np) = true := by decide +kernel
set_option maxRecDepth 100000 in
theorem zt_ck109 : (zc 109).all (zw_ck (zt_M 109).2.1 (zt_M 109).2.2.2.2 (zt_M 109).2.2.1 (zt_M 109).2.2.2.1 zt_tb zt_np) = true := by decide +kernel
set_option maxRecDepth 100000 in
theorem zt_ck110 : (zc 110).all (zw_ck (zt_M 110).2.1 (zt_M 110).2.2.2.2 (zt_M 110).2.2.1 (zt_M 110).2.2.2.1 zt_tb zt_np) = true := by decide +kernel
set_option maxRecDepth 100000 in
theorem zt_ck111 : (zc 111).all (zw_ck (zt_M 111).2.1 (zt_M 111).2.2.2.2 (zt_M 111).2.2.1 (zt_M 111).2.2.2.1 zt_tb zt_np) = true := by decide +kernel
set_option maxRecDepth 100000 in
theorem zt_ck112 : (zc 112).all (zw_ck (zt_M 112).2.1 (zt_M 112).2.2.2.2 (zt_M 112).2.2.1 (zt_M 112).2.2.2.1 zt_tb zt_np) = true := by decide +kernel
set_option maxRecDepth 100000 in
theorem zt_ck113 : (zc 113).all (zw_ck (zt_M 113).2.1 (zt_M 113).2.2.2.2 (zt_M 113).2.2.1 (zt_M 113).2.2.2.1 zt_tb zt_np) = true := by decide +kernel
set_option maxRecDepth 100000 in
theorem zt_ck114 : (zc 114).all (zw_ck (zt_M 114).2.1 (zt_M 114).2.2.2.2 (zt_M 114).2.2.1 (zt_M 114).2.2.2.1 zt_tb zt_np) = true := by decide +kernel
set_option maxRecDepth 100000 in
theorem zt_ck115 : (zc 115).all (zw_ck (zt_M 115).2.1 (zt_M 115).2.2.2.2 (zt_M 115).2.2.1 (zt_M 115).2.2.2.1 zt_tb zt_np) = true := by decide +kernel
set_option maxRecDepth 100000 in
theorem zt_ck116 : (zc 116).all (zw_ck (zt_M 116).2.1 (zt_M 116).2.2.2.2 (zt_M 116).2.2.1 (zt_M 116).2.2.2.1 zt_tb zt_np) = true := by decide +kernel
set_option maxRecDepth 100000 in
theorem zt_ck117 : (zc 117).all (zw_ck (zt_M 117).2.1 (zt_M 117).2.2.2.2 (zt_M 117).2.2.1 (zt_M 117).2.2.2.1 zt_tb zt_np) = true := by decide +kernel
set_option maxRecDepth 100000 in
theorem zt_ck118 : (zc 118).all (zw_ck (zt_M 118).2.1 (zt_M 118).2.2.2.2 (zt_M 118).2.2.1 (zt_M 118).2.2.2.1 zt_tb zt_np) = true := by decide +kernel
set_option maxRecDepth 100000 in
theorem zt_ck119 : (zc 119).all (zw_ck (zt_M 119).2.1 (zt_M 119).2.2.2.2 (zt_M 119).2.2.1 (zt_M 119).2.2.2.1 zt_tb zt_np) = true := by decide +kernel
set_option maxRecDepth 100000 in
theorem zt_ck120 : (zc 120).all (zw_ck (zt_M 120).2.1 (zt_M 120).2.2.2.2 (zt_M 120).2.2.1 (zt_M 120).2.2.2.1 zt_tb zt_np) = true := by decide +kernel
set_option maxRecDepth 100000 in
theorem zt_ck121 : (zc 121).all (zw_ck (zt_M 121).2.1 (zt_M 121).2.2.2.2 (zt_M 121).2.2.1 (zt_M 121).2.2.2.1 zt_tb zt_np) = true := by decide +kernel
set_option maxRecDepth 100000 in
theorem zt_ck122 : (zc 122).all (zw_ck (zt_M 122).2.1 (zt_M 122).2.2.2.2 (zt_M 122).2.2.1 (zt_M 122).2.2.2.1 zt_tb zt_np) = true := by decide +kernel
set_option maxRecDepth 100000 in
theorem zt_ck123 : (zc 123).all (zw_ck (zt_M 123).2.1 (zt_M 123).2.2.2.2 (zt_M 123).2.2.1 (zt_M 123).2.2.2.1 zt_tb zt_np) = true := by decide +kernel
set_option maxRecDepth 100000 in
theorem zt_ck124 : (zc 124).all (zw_ck (zt_M 124).2.1 (zt_M 124).2.2.2.2 (zt_M 124).2.2.1 (zt_M 124).2.2.2.1 zt_tb zt_np) = true := by decide +kernel
set_option maxRecDepth 100000 in
theorem zt_ck125 : (zc 125).all (zw_ck (zt_M 125).2.1 (zt_M 125).2.2.2.2 (zt_M 125).2.2.1 (zt_M 125).2.2.2.1 zt_tb zt_np) = true := by decide +kernel
set_option maxRecDepth 100000 in
theorem zt_ck126 : (zc 126).all (zw_ck (zt_M 126).2.1 (zt_M 126).2.2.2.2 (zt_M 126).2.2.1 (zt_M 126).2.2.2.1 zt_tb zt_np) = true := by decide +kernel
set_option maxRecDepth 100000 in
theorem zt_ck127 : (zc 127).all (zw_ck (zt_M 127).2.1 (zt_M 127).2.2.2.2 (zt_M 127).2.2.1 (zt_M 127).2.2.2.1 zt_tb zt_np) = true := by decide +kernel
set_option maxRecDepth 100000 in
theorem zt_ck128 : (zc 128).all (zw_ck (zt_M 128).2.1 (zt_M 128).2.2.2.2 (zt_M 128).2.2.1 (zt_M 128).2.2.2.1 zt_tb zt_np) = true := by decide +kernel
set_option maxRecDepth 100000 in
theorem zt_ck129 : (zc 129).all (zw_ck (zt_M 129).2.1 (zt_M 129).2.2.2.2 (zt_M 129).2.2.1 (zt_M 129).2.2.2.1 zt_tb zt_np) = true := by decide +kernel
set_option maxRecDepth 100000 in
theorem zt_ck130 : (zc 130).all (zw_ck (zt_M 130).2.1 (zt_M 130).2.2.2.2 (zt_M 130).2.2.1 (zt_M 130).2.2.2.1 zt_tb zt_np) = true := by decide +kernel
set_option maxRecDepth 100000 in
theorem zt_ck131 : (zc 131).all (zw_ck (zt_M 131).2.1 (zt_M 131).2.2.2.2 (zt_M 131).2.2.1 (zt_M 131).2.2.2.1 zt_tb zt_np) = true := by decide +kernel
set_option maxRecDepth 100000 in
theorem zt_ck132 : (zc 132).all (zw_ck (zt_M 132).2.1 (zt_M 132).2.2.2.2 (zt_M 132).2.2.1 (zt_M 132).2.2.2.1 zt_tb zt_np) = true := by decide +kernel
set_option maxRecDepth 100000 in
theorem zt_ck133 : (zc 133).all (zw_ck (zt_M 133).2.1 (zt_M 133).2.2.2.2 (zt_M 133).2.2.1 (zt_M 133).2.2.2.1 zt_tb zt_np) = true := by decide +kernel
set_option maxRecDepth 100000 in
theorem zt_ck134 : (zc 134).all (zw_ck (zt_M 134).2.1 (zt_M 134).2.2.2.2 (zt_M 134).2.2.1 (zt_M 134).2.2.2.1 zt_tb zt_np) = true := by decide +kernel
set_option maxRecDepth 100000 in
theorem zt_ck135 : (zc 135).all (zw_ck (zt_M 135).2.1 (zt_M 135).2.2.2.2 (zt_M 135).2.2.1 (zt_M 135).2.2.2.1 zt_tb zt_np) = true := by decide +kernel
set_option maxRecDepth 100000 in
theorem zt_ck136 : (zc 136).all (zw_ck (zt_M 136).2.1 (zt_M 136).2.2.2.2 (zt_M 136).2.2.1 (zt_M 136).2.2.2.1 zt_tb zt_np) = true := by decide +kernel
set_option maxRecDepth 100000 in
theorem zt_ck137 : (zc 137).all (zw_ck (zt_M 137).2.1 (zt_M 137).2.2.2.2 (zt_M 137).2.2.1 (zt_M 137).2.2.2.1 zt_tb zt_np) = true := by decide +kernel
set_option maxRecDepth 100000 in
theorem zt_ck138 : (zc 138).all (zw_ck (zt_M 138).2.1 (zt_M 138).2.2.2.2 (zt_M 138).2.2.1 (zt_M 138).2.2.2.1 zt_tb zt_np) = true := by decide +kernel
set_option maxRecDepth 100000 in
theorem zt_ck139 : (zc 139).all (zw_ck (zt_M 139).2.1 (zt_M 139).2.2.2.2 (zt_M 139).2.2.1 (zt_M 139).2.2.2.1 zt_tb zt_np) = true := by decide +kernel
set_option maxRecDepth 100000 in
theorem zt_ck140 : (zc 140).all (zw_ck (zt_M 140).2.1 (zt_M 140).2.2.2.2 (zt_M 140).2.2.1 (zt_M 140).2.2.2.1 zt_tb zt_np) = true := by decide +kernel
set_option maxRecDepth 100000 in
theorem zt_ck141 : (zc 141).all (zw_ck (zt_M 141).2.1 (zt_M 141).2.2.2.2 (zt_M 141).2.2.1 (zt_M 141).2.2.2.1 zt_tb zt_np) = true := by decide +kernel
set_option maxRecDepth 100000 in
theorem zt_ck142 : (zc 142).all (zw_ck (zt_M 142).2.1 (zt_M 142).2.2.2.2 (zt_M 142).2.2.1 (zt_M 142).2.2.2.1 zt_tb zt_np) = true := by decide +kernel
set_option maxRecDepth 100000 in
theorem zt_ck143 : (zc 143).all (zw_ck (zt_M 143).2.1 (zt_M 143).2.2.2.2 (zt_M 143).2.2.1 (zt_M 143).2.2.2.1 zt_tb zt_np) = true := by decide +kernel
set_option maxRecDepth 100000 in
theorem zt_ck144 : (zc 144).all (zw_ck (zt_M 144).2.1 (zt_M 144).2.2.2.2 (zt_M 144).2.2.1 (zt_M 144).2.2.2.1 zt_tb zt_np) = true := by decide +kernel
set_option maxRecDepth 100000 in
theorem zt_ck145 : (zc 145).all (zw_ck (zt_M 145).2.1 (zt_M 145).2.2.2.2 (zt_M 145).2.2.1 (zt_M 145).2.2.2.1 zt_tb zt_np) = true := by decide +kernel
set_option maxRecDepth 100000 in
theorem zt_ck146 : (zc 146).all (zw_ck (zt_M 146).2.1 (zt_M 146).2.2.2.2 (zt_M 146).2.2.1 (zt_M 146).2.2.2.1 zt_tb zt_np) = true := by decide +kernel
set_option maxRecDepth 100000 in
theorem zt_ck147 : (zc 147).all (zw_ck (zt_M 147).2.1 (zt_M 147).2.2.2.2 (zt_M 147).2.2.1 (zt_M 147).2.2.2.1 zt_tb zt_np) = true := by decide +kernel
set_option maxRecDepth 100000 in
theorem zt_ck148 : (zc 148).all (zw_ck (zt_M 148).2.1 (zt_M 148).2.2.2.2 (zt_M 148).2.2.1 (zt_M 148).2.2.2.1 zt_tb zt_np) = true := by decide +kernel
set_option maxRecDepth 100000 in
theorem zt_ck149 : (zc 149).all (zw_ck (zt_M 149).2.1 (zt_M 149).2.2.2.2 (zt_M 149).2.2.1 (zt_M 149).2.2.2.1 zt_tb zt_np) = true := by decide +kernel
set_option maxRecDepth 100000 in
theorem zt_ck150 : (zc 150).all (zw_ck (zt_M 150).2.1 (zt_M 150).2.2.2.2 (zt_M 150).2.2.1 (zt_M 150).2.2.2.1 zt_tb zt_np) = true := by decide +kernel
set_option maxRecDepth 100000 in
theorem zt_ck151 : (zc 151).all (zw_ck (zt_M 151).2.1 (zt_M 151).2.2.2.2 (zt_M 151).2.2.1 (zt_M 151).2.2.2.1 zt_tb zt_np) = true := by decide +kernel
set_option maxRecDepth 100000 in
theorem zt_ck152 : (zc 152).all (zw_ck (zt_M 152).2.1 (zt_M 152).2.2.2.2 (zt_M 152).2.2.1 (zt_M 152).2.2.2.1 zt_tb zt_np) = true := by decide +kernel
set_option maxRecDepth 100000 in
theorem zt_ck153 : (zc 153).all (zw_ck (zt_M 153).2.1 (zt_M 153).2.2.2.2 (zt_M 153).2.2.1 (zt_M 153).2.2.2.1 zt_tb zt_np) = true := by decide +kernel
set_option maxRecDepth 100000 in
theorem zt_ck154 : (zc 154).all (zw_ck (zt_M 154).2.1 (zt_M 154).2.2.2.2 (zt_M 154).2.2.1 (zt_M 154).2.2.2.1 zt_tb zt_np) = true := by decide +kernel
set_option maxRecDepth 100000 in
theorem zt_ck155 : (zc 155).all (zw_ck (zt_M 155).2.1 (zt_M 155).2.2.2.2 (zt_M 155).2.2.1 (zt_M 155).2.2.2.1 zt_tb zt_np) = true := by decide +kernel
set_option maxRecDepth 100000 in
theorem zt_ck156 : (zc 156).all (zw_ck (zt_M 156).2.1 (zt_M 156).2.2.2.2 (zt_M 156).2.2.1 (zt_M 156).2.2.2.1 zt_tb zt_np) = true := by decide +kernel
set_option maxRecDepth 100000 in
theorem zt_ck157 : (zc 157).all (zw_ck (zt_M 157).2.1 (zt_M 157).2.2.2.2 (zt_M 157).2.2.1 (zt_M 157).2.2.2.1 zt_tb zt_np) = true := by decide +kernel
set_option maxRecDepth 100000 in
theorem zt_ck158 : (zc 158).all (zw_ck (zt_M 158).2.1 (zt_M 158).2.2.2.2 (zt_M 158).2.2.1 (zt_M 158).2.2.2.1 zt_tb zt_np) = true := by decide +kernel
set_option maxRecDepth 100000 in
theorem zt_ck159 : (zc 159).all (zw_ck (zt_M 159).2.1 (zt_M 159).2.2.2.2 (zt_M 159).2.2.1 (zt_M 159).2.2.2.1 zt_tb zt_np) = true := by decide +kernel
set_option maxRecDepth 100000 in
theorem zt_ck160 : (zc 160).all (zw_ck (zt_M 160).2.1 (zt_M 160).2.2.2.2 (zt_M 160).2.2.1 (zt_M 160).2.2.2.1 zt_tb zt_np) = true := by decide +kernel
set_option maxRecDepth 100000 in
theorem zt_ck161 : (zc 161).all (zw_ck (zt_M 161).2.1 (zt_M 161).2.2.2.2 (zt_M 161).2.2.1 (zt_M 161).2.2.2.1 zt_tb zt_np) = true := by decide +kernel
theorem zt_ck : ∀ n, n < 162 → plainName (zt_M n).1.cls = true ∧ zt_cn (zt_M n).2.2.2.2 = (zt_M n).1.cls ∧ ∀ q ∈ zc n, zw_ck (zt_M n).2.1 (zt_M n).2.2.2.2 (zt_M n).2.2.1 (zt_M n).2.2.2.1 zt_tb zt_np q = true := by
  intro n hn
  match n, hn with
  | 0, _ => exact ⟨by decide +kernel, by decide +kernel, List.all_eq_true.mp zt_ck0⟩
  | 1, _ => exact ⟨by decide +kernel, by decide +kernel, List.all_eq_true.mp zt_ck1⟩
  | 2, _ => exact ⟨by decide +kernel, by decide +kernel, List.all_eq_true.mp zt_ck2⟩
  | 3, _ => exact ⟨by decide +kernel, by decide +kernel, List.all_eq_true.mp zt_ck3⟩
  | 4, _ => exact ⟨by decide +kernel, by decide +kernel, List.all_eq_true.mp zt_ck4⟩
  | 5, _ => exact ⟨by decide +kernel, by decide +kernel, List.all_eq_true.mp zt_ck5⟩
  | 6, _ => exact ⟨by decide +kernel, by decide +kernel, List.all_eq_true.mp zt_ck6⟩
  | 7, _ => exact ⟨by decide +kernel, by decide +kernel, List.all_eq_true.mp zt_ck7⟩
  | 8, _ => exact ⟨by decide +kernel, by decide +kernel, List.all_eq_true.mp zt_ck8⟩
  | 9, _ => exact ⟨by decide +kernel, by decide +kernel, List.all_eq_true.mp zt_ck9⟩
  | 10, _ => exact ⟨by decide +kernel, by decide +kernel, List.all_eq_true.mp zt_ck10⟩
  | 11, _ => exact ⟨by decide +kernel, by decide +kernel, List.all_eq_true.mp zt_ck11⟩
  | 12, _ => exact ⟨by decide +kernel, by decide +kernel, List.all_eq_true.mp zt_ck12⟩
  | 13, _ => exact ⟨by decide +kernel, by decide +kernel, List.all_eq_true.mp zt_ck13⟩
  | 14, _ => exact ⟨by decide +kernel, by decide +kernel, List.all_eq_true.mp zt_ck14⟩
  | 15, _ => exact ⟨by decide +kernel, by decide +kernel, List.all_eq_true.mp zt_ck15⟩
  | 16, _ => exact ⟨by decide +kernel, by decide +kernel, List.all_eq_true.mp zt_ck16⟩
  | 17, _ => exact ⟨by decide +kernel, by decide +kernel, List.all_eq_true.mp zt_ck17⟩
  | 18, _ => exact ⟨by decide +kernel, by decide +kernel, List.all_eq_true.mp zt_ck18⟩
  | 19, _ => exact ⟨by decide +kernel, by decide +kernel, List.all_eq_true.mp zt_ck19⟩
  | 20, _ => exact ⟨by decide +kernel, by decide +kernel, List.all_eq_true.mp zt_ck20⟩
  | 21, _ => exact ⟨by decide +kernel, by decide +kernel, List.all_eq_true.mp zt_ck21⟩
  | 22, _ => exact ⟨by decide +kernel, by decide +kernel, List.all_eq_true.mp zt_ck22⟩
  | 23, _ => exact ⟨by decide +kernel, by decide +kernel, List.all_eq_true.mp zt_ck23⟩
  | 24, _ => exact ⟨by decide +kernel, by decide +kernel, List.all_eq_true.mp zt_ck24⟩
  | 25, _ => exact ⟨by decide +kernel, by decide +kernel, List.all_eq_true.mp zt_ck25⟩
  | 26, _ => exact ⟨by decide +kernel, by decide +kernel, List.all_eq_true.mp zt_ck26⟩
  | 27, _ => exact ⟨by decide +kernel, by decide +kernel, List.all_eq_true.mp zt_ck27⟩
  | 28, _ => exact ⟨by decide +kernel, by decide +kernel, List.all_eq_true.mp zt_ck28⟩
  | 29, _ => exact ⟨by decide +kernel, by decide +kernel, List.all_eq_true.mp zt_ck29⟩
  | 30, _ => exact ⟨by decide +kernel, by decide +kernel, List.all_eq_true.mp zt_ck30⟩
  | 31, _ => exact ⟨by decide +kernel, by decide +kernel, List.all_eq_true.mp zt_ck31⟩
  | 32, _ => exact ⟨by decide +kernel, by decide +kernel, List.all_eq_true.mp zt_ck32⟩
  | 33, _ => exact ⟨by decide +kernel, by decide +kernel, List.all_eq_true.mp zt_ck33⟩
  | 34, _ => exact ⟨by decide +kernel, by decide +kernel, List.all_eq_true.mp zt_ck34⟩
  | 35, _ => exact ⟨by decide +kernel, by decide +kernel, List.all_eq_true.mp zt_ck35⟩
  | 36, _ => exact ⟨by decide +kernel, by decide +kernel, List.all_eq_true.mp zt_ck36⟩
  | 37, _ => exact ⟨by decide +kernel, by decide +kernel, List.all_eq_true.mp zt_ck37⟩
  | 38, _ => exact ⟨by decide +kernel, by decide +kernel, List.all_eq_true.mp zt_ck38⟩
  | 39, _ => exact ⟨by decide +kernel, by decide +kernel, List.all_eq_true.mp zt_ck39⟩
  | 40, _ => exact ⟨by decide +kernel, by decide +kernel, List.all_eq_true.mp zt_ck40⟩
  | 41, _ => exact ⟨by decide +kernel, by decide +kernel, List.all_eq_true.mp zt_ck41⟩
  | 42, _ => exact ⟨by decide +kernel, by decide +kernel, List.all_eq_true.mp zt_ck42⟩
  | 43, _ => exact ⟨by decide +kernel, by decide +kernel, List.all_eq_true.mp zt_ck43⟩
  | 44, _ => exact ⟨by decide +kernel, by decide +kernel, List.all_eq_true.mp zt_ck44⟩
  | 45, _ => exact ⟨by decide +kernel, by decide +kernel, List.all_eq_true.mp zt_ck45⟩
  | 46, _ => exact ⟨by decide +kernel, by decide +kernel, List.all_eq_true.mp zt_ck46⟩
  | 47, _ => exact ⟨by decide +kernel, by decide +kernel, List.all_eq_true.mp zt_ck47⟩
  | 48, _ => exact ⟨by decide +kernel, by decide +kernel, List.all_eq_true.mp zt_ck48⟩
  | 49, _ => exact ⟨by decide +kernel, by decide +kernel, List.all_eq_true.mp zt_ck49⟩
  | 50, _ => exact ⟨by decide +kernel, by decide +kernel, List.all_eq_true.mp zt_ck50⟩
  | 51, _ => exact ⟨by decide +kernel, by decide +kernel, List.all_eq_true.mp zt_ck51⟩
  | 52, _ => exact ⟨by decide +kernel, by decide +kernel, List.all_eq_true.mp zt_ck52⟩
  | 53, _ => exact ⟨by decide +kernel, by decide +kernel, List.all_eq_true.mp zt_ck53⟩
  | 54, _ => exact ⟨by decide +kernel, by decide +kernel, List.all_eq_true.mp zt_ck54⟩
  | 55, _ => exact ⟨by decide +kernel, by decide +kernel, List.all_eq_true.mp zt_ck55⟩
  | 56, _ => exact ⟨by decide +kernel, by decide +kernel, List.all_eq_true.mp zt_ck56⟩
  | 57, _ => exact ⟨by decide +kernel, by decide +kernel, List.all_eq_true.mp zt_ck57⟩
  | 58, _ => exact ⟨by decide +kernel, by decide +kernel, List.all_eq_true.mp zt_ck58⟩
  | 59, _ => exact ⟨by decide +kernel, by decide +kernel, List.all_eq_true.mp zt_ck59⟩
  | 60, _ => exact ⟨by decide +kernel, by decide +kernel, List.all_eq_true.mp zt_ck60⟩
  | 61, _ => exact ⟨by decide +kernel, by decide +kernel, List.all_eq_true.mp zt_ck61⟩
  | 62, _ => exact ⟨by decide +kernel, by decide +kernel, List.all_eq_true.mp zt_ck62⟩
  | 63, _ => exact ⟨by decide +kernel, by decide +kernel, List.all_eq_true.mp zt_ck63⟩
  | 64, _ => exact ⟨by decide +kernel, by decide +kernel, List.all_eq_true.mp zt_ck64⟩
  | 65, _ => exact ⟨by decide +kernel, by decide +kernel, List.all_eq_true.mp zt_ck65⟩
  | 66, _ => exact ⟨by decide +kernel, by decide +kernel, List.all_eq_true.mp zt_ck66⟩
  | 67, _ => exact ⟨by decide +kernel, by decide +kernel, List.all_eq_true.mp zt_ck67⟩
  | 68, _ => exact ⟨by decide +kernel, by decide +kernel, List.all_eq_true.mp zt_ck68⟩
  | 69, _ => exact ⟨by decide +kernel, by decide +kernel, List.all_eq_true.mp zt_ck69⟩
  | 70, _ => exact ⟨by decide +kernel, by decide +kernel, List.all_eq_true.mp zt_ck70⟩
  | 71, _ => exact ⟨by decide +kernel, by decide +kernel, List.all_eq_true.mp zt_ck71⟩
  | 72, _ => exact ⟨by decide +kernel, by decide +kernel, List.all_eq_true.mp zt_ck72⟩
  | 73, _ => exact ⟨by decide +kernel, by decide +kernel, List.all_eq_true.mp zt_ck73⟩
  | 74, _ => exact ⟨by decide +kernel, by decide +kernel, List.all_eq_true.mp zt_ck74⟩
  | 75, _ => exact ⟨by decide +kernel, by decide +kernel, List.all_eq_true.mp zt_ck75⟩
  | 76, _ => exact ⟨by decide +kernel, by decide +kernel, List.all_eq_true.mp zt_ck76⟩
  | 77, _ => exact ⟨by decide +kernel, by decide +kernel, List.all_eq_true.mp zt_ck77⟩
  | 78, _ => exact ⟨by decide +kernel, by decide +kernel, List.all_eq_true.mp zt_ck78⟩
  | 79, _ => exact ⟨by decide +kernel, by decide +kernel, List.all_eq_true.mp zt_ck79⟩
  | 80, _ => exact ⟨by decide +kernel, by decide +kernel, List.all_eq_true.mp zt_ck80⟩
  | 81, _ => exact ⟨by decide +kernel, by decide +kernel, List.all_eq_true.mp zt_ck81⟩
  | 82, _ => exact ⟨by decide +kernel, by decide +kernel, List.all_eq_true.mp zt_ck82⟩
  | 83, _ => exact ⟨by decide +kernel, by decide +kernel, List.all_eq_true.mp zt_ck83⟩
  | 84, _ => exact ⟨by decide +kernel, by decide +kernel, List.all_eq_true.mp zt_ck84⟩
  | 85, _ => exact ⟨by decide +kernel, by decide +kernel, List.all_eq_true.mp zt_ck85⟩
  | 86, _ => exact ⟨by decide +kernel, by decide +kernel, List.all_eq_true.mp zt_ck86⟩
  | 87, _ => exact ⟨by decide +kernel, by decide +kernel, List.all_eq_true.mp zt_ck87⟩
  | 88, _ => exact ⟨by decide +kernel, by decide +kernel, List.all_eq_true.mp zt_ck88⟩
  | 89, _ => exact ⟨by decide +kernel, by decide +kernel, List.all_eq_true.mp zt_ck89⟩
  | 90, _ => exact ⟨by decide +kernel, by decide +kernel, List.all_eq_true.mp zt_ck90⟩
  | 91, _ => exact ⟨by decide +kernel, by decide +kernel, List.all_eq_true.mp zt_ck91⟩
  | 92, _ => exact ⟨by decide +kernel, by decide +kernel, List.all_eq_true.mp zt_ck92⟩
  | 93, _ => exact ⟨by decide +kernel, by decide +kernel, List.all_eq_true.mp zt_ck93⟩
  | 94, _ => exact ⟨by decide +kernel, by decide +kernel, List.all_eq_true.mp zt_ck94⟩
  | 95, _ => exact ⟨by decide +kernel, by decide +kernel, List.all_eq_true.mp zt_ck95⟩
  | 96, _ => exact ⟨by decide +kernel, by decide +kernel, List.all_eq_true.mp zt_ck96⟩
  | 97, _ => exact ⟨by decide +kernel, by decide +kernel, List.all_eq_true.mp zt_ck97⟩
  | 98, _ => exact ⟨by decide +kernel, by decide +kernel, List.all_eq_true.mp zt_ck98⟩
  | 99, _ => exact ⟨by decide +kernel, by decide +kernel, List.all_eq_true.mp zt_ck99⟩
  | 100, _ => exact ⟨by decide +kernel, by decide +kernel, List.all_eq_true.mp zt_ck100⟩
  | 101, _ => exact ⟨by decide +kernel, by decide +kernel, List.all_eq_true.mp zt_ck101⟩
  | 102, _ => exact ⟨by decide +kernel, by decide +kernel, List.all_eq_true.mp zt_ck102⟩
  | 103, _ => exact ⟨by decide +kernel, by decide +kernel, List.all_eq_true.mp zt_ck103⟩
  | 104, _ => exact ⟨by decide +kernel, by decide +kernel, List.all_eq_true.mp zt_ck104⟩
  | 105, _ => exact ⟨by decide +kernel, by decide +kernel, List.all_eq_true.mp zt_ck105⟩
  | 106, _ => exact ⟨by decide +kernel, by decide +kernel, List.all_eq_true.mp zt_ck106⟩
  | 107, _ => exact ⟨by decide +kernel, by decide +kernel, List.all_eq_true.mp zt_ck107⟩
  | 108, _ => exact ⟨by decide +kernel, by decide +kernel, List.all_eq_true.mp zt_ck108⟩
  | 109, _ => exact ⟨by decide +kernel, by decide +kernel, List.all_eq_true.mp zt_ck109⟩
  | 110, _ => exact ⟨by decide +kernel, by decide +kernel, List.all_eq_true.mp zt_ck110⟩
  | 111, _ => exact ⟨by decide +kernel, by decide +kernel, List.all_eq_true.mp zt_ck111⟩
  | 112, _ => exact ⟨by decide +kernel, by decide +kernel, List.all_eq_true.mp zt_ck112⟩
  | 113, _ => exact ⟨by decide +kernel, by decide +kernel, List.all_eq_true.mp zt_ck113⟩
  | 114, _ => exact ⟨by decide +kernel, by decide +kernel, List.all_eq_true.mp zt_ck114⟩
  | 115, _ => exact ⟨by decide +kernel, by decide +kernel, List.all_eq_true.mp zt_ck115⟩
  | 116, _ => exact ⟨by decide +kernel, by decide +kernel, List.all_eq_true.mp zt_ck116⟩
  | 117, _ => exact ⟨by decide +kernel, by decide +kernel, List.all_eq_true.mp zt_ck117⟩
  | 118, _ => exact ⟨by decide +kernel, by decide +kernel, List.all_eq_true.mp zt_ck118⟩
  | 119, _ => exact ⟨by decide +kernel, by decide +kernel, List.all_eq_true.mp zt_ck119⟩
  | 120, _ => exact ⟨by decide +kernel, by decide +kernel, List.all_eq_true.mp zt_ck120⟩
  | 121, _ => exact ⟨by decide +kernel, by decide +kernel, List.all_eq_true.mp zt_ck121⟩
  | 122, _ => exact ⟨by decide +kernel, by decide +kernel, List.all_eq_true.mp zt_ck122⟩
  | 123, _ => exact ⟨by decide +kernel, by decide +kernel, List.all_eq_true.mp zt_ck123⟩
  | 124, _ => exact ⟨by decide +kernel, by decide +kernel, List.all_eq_true.mp zt_ck124⟩
  | 125, _ => exact ⟨by decide +kernel, by decide +kernel, List.all_eq_true.mp zt_ck125⟩
  | 126, _ => exact ⟨by decide +kernel, by decide +kernel, List.all_eq_true.mp zt_ck126⟩
  | 127, _ => exact ⟨by decide +kernel, by decide +kernel, List.all_eq_true.mp zt_ck127⟩
  | 128, _ => exact ⟨by decide +kernel, by decide +kernel, List.all_eq_true.mp zt_ck128⟩
  | 129, _ => exact ⟨by decide +kernel, by decide +kernel, List.all_eq_true.mp zt_ck129⟩
  | 130, _ => exact ⟨by decide +kernel, by decide +kernel, List.all_eq_true.mp zt_ck130⟩
  | 131, _ => exact ⟨by decide +kernel, by decide +kernel, List.all_eq_true.mp zt_ck131⟩
  | 132, _ => exact ⟨by decide +kernel, by decide +kernel, List.all_eq_true.mp zt_ck132⟩
  | 133, _ => exact ⟨by decide +kernel, by decide +kernel, List.all_eq_true.mp zt_ck133⟩
  | 134, _ => exact ⟨by decide +kernel, by decide +kernel, List.all_eq_true.mp zt_ck134⟩
  | 135, _ => exact ⟨by decide +kernel, by decide +kernel, List.all_eq_true.mp zt_ck135⟩
  | 136, _ => exact ⟨by decide +kernel, by decide +kernel, List.all_eq_true.mp zt_ck136⟩
  | 137, _ => exact ⟨by decide +kernel, by decide +kernel, List.all_eq_true.mp zt_ck137⟩
  | 138, _ => exact ⟨by decide +kernel, by decide +kernel, List.all_eq_true.mp zt_ck138⟩
  | 139, _ => exact ⟨by decide +kernel, by decide +kernel, List.all_eq_true.mp zt_ck139⟩
  | 140, _ => exact ⟨by decide +kernel, by decide +kernel, List.all_eq_true.mp zt_ck140⟩
  | 141, _ => exact ⟨by decide +kernel, by decide +kernel, List.all_eq_true.mp zt_ck141⟩
  | 142, _ => exact ⟨by decide +kernel, by decide +kernel, List.all_eq_true.mp zt_ck142⟩
  | 143, _ => exact ⟨by decide +kernel, by decide +kernel, List.all_eq_true.mp zt_ck143⟩
  | 144, _ => exact ⟨by decide +kernel, by decide +kernel, List.all_eq_true.mp zt_ck144⟩
  | 145, _ => exact ⟨by decide +kernel, by decide +kernel, List.all_eq_true.mp zt_ck145⟩
  | 146, _ => exact ⟨by decide +kernel, by decide +kernel, List.all_eq_true.mp zt_ck146⟩
  | 147, _ => exact ⟨by decide +kernel, by decide +kernel, List.all_eq_true.mp zt_ck147⟩
  | 148, _ => exact ⟨by decide +kernel, by decide +kernel, List.all_eq_true.mp zt_ck148⟩
  | 149, _ => exact ⟨by decide +kernel, by decide +kernel, List.all_eq_true.mp zt_ck149⟩
  | 150, _ => exact ⟨by decide +kernel, by decide +kernel, List.all_eq_true.mp zt_ck150⟩
  | 151, _ => exact ⟨by decide +kernel, by decide +kernel, List.all_eq_true.mp zt_ck151⟩
  | 152, _ => exact ⟨by decide +kernel, by decide +kernel, List.all_eq_true.mp zt_ck152⟩
  | 153, _ => exact ⟨by decide +kernel, by decide +kernel, List.all_eq_true.mp zt_ck153⟩
  | 154, _ => exact ⟨by decide +kernel, by decide +kernel, List.all_eq_true.mp zt_ck154⟩
  | 155, _ => exact ⟨by decide +kernel, by decide +kernel, List.all_eq_true.mp zt_ck155⟩
  | 156, _ => exact ⟨by decide +kernel, by decide +kernel, List.all_eq_true.mp zt_ck156⟩
  | 157, _ => exact ⟨by decide +kernel, by decide +kernel, List.all_eq_true.mp zt_ck157⟩
  | 158, _ => exact ⟨by decide +kernel, by decide +kernel, List.all_eq_true.mp zt_ck158⟩
  | 159, _ => exact ⟨by decide +kernel, by decide +kernel, List.all_eq_true.mp zt_ck159⟩
  | 160, _ => exact ⟨by decide +kernel, by decide +kernel, List.all_eq_true.mp zt_ck160⟩
  | 161, _ => exact ⟨by decide +kernel, by decide +kernel, List.all_eq_true.mp zt_ck161⟩
  | n + 162, h => exact absurd h (by omega)
