/-! THE CHECK OF THE METHODS' ROWS, 3 -/
def m_tckP (M lo : Nat) (tb : List (Option (Instr × LK))) : Bool := tb.zipIdx.all fun x => match x.1 with
  | some (i, q) => m_ick M (lo + x.2) i q
  | none => true
theorem m_tckP_of {M lo n pc : Nat} {tb : List (Option (Instr × LK))} (h : m_tckP M lo ((tb.drop lo).take n) = true) {i : Instr} {q : LK} (h1 : lo ≤ pc) (h2 : pc < lo + n) (ht : tb[pc]? = some (some (i, q))) : m_ick M pc i q = true := by
  unfold m_tckP at h
  rw [List.all_eq_true] at h
  have hx : ((tb.drop lo).take n)[pc - lo]? = some (some (i, q)) := by
    rw [List.getElem?_take_of_lt (by omega), List.getElem?_drop, show lo + (pc - lo) = pc by omega]
    exact ht
  have := h (some (i, q), pc - lo) (List.mem_zipIdx_iff_getElem?.mpr hx)
  dsimp only at this
  rwa [show lo + (pc - lo) = pc by omega] at this
theorem m_tck_mk {M : Nat} {tb : List (Option (Instr × LK))} (h : ∀ (pc : Nat) (i : Instr) (q : LK), tb[pc]? = some (some (i, q)) → m_ick M pc i q = true) : m_tck M tb = true := by
  unfold m_tck
  rw [List.all_eq_true]
  rintro ⟨o, pc⟩ hx
  have h2 := List.mem_zipIdx_iff_getElem?.mp hx
  cases o with
  | none => rfl
  | some iq =>
    obtain ⟨i, q⟩ := iq
    exact h pc i q h2
theorem m_ck330 : m_tck 330 m_t330 = true := by decide +kernel
theorem m_ck331 : m_tck 331 m_t331 = true := by decide +kernel
theorem m_ck332 : m_tck 332 m_t332 = true := by decide +kernel
theorem m_ck333 : m_tck 333 m_t333 = true := by decide +kernel
theorem m_ck334 : m_tck 334 m_t334 = true := by decide +kernel
theorem m_ck335 : m_tck 335 m_t335 = true := by decide +kernel
theorem m_ck336 : m_tck 336 m_t336 = true := by decide +kernel
theorem m_ck337 : m_tck 337 m_t337 = true := by decide +kernel
theorem m_ck338 : m_tck 338 m_t338 = true := by decide +kernel
theorem m_ck339 : m_tck 339 m_t339 = true := by decide +kernel
theorem m_ck340 : m_tck 340 m_t340 = true := by decide +kernel
theorem m_ck341 : m_tck 341 m_t341 = true := by decide +kernel
theorem m_ck342 : m_tck 342 m_t342 = true := by decide +kernel
theorem m_ck343 : m_tck 343 m_t343 = true := by decide +kernel
theorem m_ck344 : m_tck 344 m_t344 = true := by decide +kernel
theorem m_ck345 : m_tck 345 m_t345 = true := by decide +kernel
theorem m_ck346 : m_tck 346 m_t346 = true := by decide +kernel
theorem m_ck347 : m_tck 347 m_t347 = true := by decide +kernel
theorem m_ck348 : m_tck 348 m_t348 = true := by decide +kernel
theorem m_ck349 : m_tck 349 m_t349 = true := by decide +kernel
theorem m_ck350 : m_tck 350 m_t350 = true := by decide +kernel
theorem m_ck351 : m_tck 351 m_t351 = true := by decide +kernel
theorem m_ck352 : m_tck 352 m_t352 = true := by decide +kernel
theorem m_ck353 : m_tck 353 m_t353 = true := by decide +kernel
theorem m_ck354 : m_tck 354 m_t354 = true := by decide +kernel
theorem m_ck355 : m_tck 355 m_t355 = true := by decide +kernel
theorem m_ck356 : m_tck 356 m_t356 = true := by decide +kernel
theorem m_ck357 : m_tck 357 m_t357 = true := by decide +kernel
theorem m_ck358 : m_tck 358 m_t358 = true := by decide +kernel
theorem m_ck359 : m_tck 359 m_t359 = true := by decide +kernel
theorem m_ck360 : m_tck 360 m_t360 = true := by decide +kernel
theorem m_ck361 : m_tck 361 m_t361 = true := by decide +kernel
theorem m_ck362 : m_tck 362 m_t362 = true := by decide +kernel
theorem m_ck363 : m_tck 363 m_t363 = true := by decide +kernel
theorem m_ck364 : m_tck 364 m_t364 = true := by decide +kernel
theorem m_ck365 : m_tck 365 m_t365 = true := by decide +kernel
theorem m_ck366 : m_tck 366 m_t366 = true := by decide +kernel
theorem m_ck367 : m_tck 367 m_t367 = true := by decide +kernel
theorem m_ck368 : m_tck 368 m_t368 = true := by decide +kernel
theorem m_ck369 : m_tck 369 m_t369 = true := by decide +kernel
theorem m_ck370 : m_tck 370 m_t370 = true := by decide +kernel
theorem m_ck371 : m_tck 371 m_t371 = true := by decide +kernel
theorem m_ck372 : m_tck 372 m_t372 = true := by decide +kernel
theorem m_ck373 : m_tck 373 m_t373 = true := by decide +kernel
theorem m_ck374 : m_tck 374 m_t374 = true := by decide +kernel
theorem m_ck375 : m_tck 375 m_t375 = true := by decide +kernel
theorem m_ck376 : m_tck 376 m_t376 = true := by decide +kernel
theorem m_ck377 : m_tck 377 m_t377 = true := by decide +kernel
theorem m_ck378 : m_tck 378 m_t378 = true := by decide +kernel
theorem m_ck379 : m_tck 379 m_t379 = true := by decide +kernel
theorem m_ck380 : m_tck 380 m_t380 = true := by decide +kernel
theorem m_ck381 : m_tck 381 m_t381 = true := by decide +kernel
theorem m_ck382 : m_tck 382 m_t382 = true := by decide +kernel
theorem m_ck383 : m_tck 383 m_t383 = true := by decide +kernel
theorem m_ck384 : m_tck 384 m_t384 = true := by decide +kernel
theorem m_ck385 : m_tck 385 m_t385 = true := by decide +kernel
theorem m_ck386 : m_tck 386 m_t386 = true := by decide +kernel
theorem m_ck387 : m_tck 387 m_t387 = true := by decide +kernel
theorem m_ln388 : m_t388.length = 1299 := by decide +kernel
theorem m_cp388_0 : m_tckP 388 0 ((m_t388.drop 0).take 60) = true := by decide +kernel
theorem m_cp388_1 : m_tckP 388 60 ((m_t388.drop 60).take 60) = true := by decide +kernel
theorem m_cp388_2 : m_tckP 388 120 ((m_t388.drop 120).take 60) = true := by decide +kernel
theorem m_cp388_3 : m_tckP 388 180 ((m_t388.drop 180).take 60) = true := by decide +kernel
theorem m_cp388_4 : m_tckP 388 240 ((m_t388.drop 240).take 60) = true := by decide +kernel
theorem m_cp388_5 : m_tckP 388 300 ((m_t388.drop 300).take 60) = true := by decide +kernel
theorem m_cp388_6 : m_tckP 388 360 ((m_t388.drop 360).take 60) = true := by decide +kernel
theorem m_cp388_7 : m_tckP 388 420 ((m_t388.drop 420).take 60) = true := by decide +kernel
theorem m_cp388_8 : m_tckP 388 480 ((m_t388.drop 480).take 60) = true := by decide +kernel
theorem m_cp388_9 : m_tckP 388 540 ((m_t388.drop 540).take 60) = true := by decide +kernel
theorem m_cp388_10 : m_tckP 388 600 ((m_t388.drop 600).take 60) = true := by decide +kernel
theorem m_cp388_11 : m_tckP 388 660 ((m_t388.drop 660).take 60) = true := by decide +kernel
theorem m_cp388_12 : m_tckP 388 720 ((m_t388.drop 720).take 60) = true := by decide +kernel
theorem m_cp388_13 : m_tckP 388 780 ((m_t388.drop 780).take 60) = true := by decide +kernel
theorem m_cp388_14 : m_tckP 388 840 ((m_t388.drop 840).take 60) = true := by decide +kernel
theorem m_cp388_15 : m_tckP 388 900 ((m_t388.drop 900).take 60) = true := by decide +kernel
theorem m_cp388_16 : m_tckP 388 960 ((m_t388.drop 960).take 60) = true := by decide +kernel
theorem m_cp388_17 : m_tckP 388 1020 ((m_t388.drop 1020).take 60) = true := by decide +kernel
theorem m_cp388_18 : m_tckP 388 1080 ((m_t388.drop 1080).take 60) = true := by decide +kernel
theorem m_cp388_19 : m_tckP 388 1140 ((m_t388.drop 1140).take 60) = true := by decide +kernel
theorem m_cp388_20 : m_tckP 388 1200 ((m_t388.drop 1200).take 60) = true := by decide +kernel
theorem m_cp388_21 : m_tckP 388 1260 ((m_t388.drop 1260).take 60) = true := by decide +kernel
theorem m_ck388 : m_tck 388 m_t388 = true := m_tck_mk (fun pc i q ht => by
  have hl := (List.getElem?_eq_some_iff.mp ht).1
  rw [m_ln388] at hl
  by_cases h0 : pc < 60
  · exact m_tckP_of m_cp388_0 (by omega) (by omega) ht
  by_cases h1 : pc < 120
  · exact m_tckP_of m_cp388_1 (by omega) (by omega) ht
  by_cases h2 : pc < 180
  · exact m_tckP_of m_cp388_2 (by omega) (by omega) ht
  by_cases h3 : pc < 240
  · exact m_tckP_of m_cp388_3 (by omega) (by omega) ht
  by_cases h4 : pc < 300
  · exact m_tckP_of m_cp388_4 (by omega) (by omega) ht
  by_cases h5 : pc < 360
  · exact m_tckP_of m_cp388_5 (by omega) (by omega) ht
  by_cases h6 : pc < 420
  · exact m_tckP_of m_cp388_6 (by omega) (by omega) ht
  by_cases h7 : pc < 480
  · exact m_tckP_of m_cp388_7 (by omega) (by omega) ht
  by_cases h8 : pc < 540
  · exact m_tckP_of m_cp388_8 (by omega) (by omega) ht
  by_cases h9 : pc < 600
  · exact m_tckP_of m_cp388_9 (by omega) (by omega) ht
  by_cases h10 : pc < 660
  · exact m_tckP_of m_cp388_10 (by omega) (by omega) ht
  by_cases h11 : pc < 720
  · exact m_tckP_of m_cp388_11 (by omega) (by omega) ht
  by_cases h12 : pc < 780
  · exact m_tckP_of m_cp388_12 (by omega) (by omega) ht
  by_cases h13 : pc < 840
  · exact m_tckP_of m_cp388_13 (by omega) (by omega) ht
  by_cases h14 : pc < 900
  · exact m_tckP_of m_cp388_14 (by omega) (by omega) ht
  by_cases h15 : pc < 960
  · exact m_tckP_of m_cp388_15 (by omega) (by omega) ht
  by_cases h16 : pc < 1020
  · exact m_tckP_of m_cp388_16 (by omega) (by omega) ht
  by_cases h17 : pc < 1080
  · exact m_tckP_of m_cp388_17 (by omega) (by omega) ht
  by_cases h18 : pc < 1140
  · exact m_tckP_of m_cp388_18 (by omega) (by omega) ht
  by_cases h19 : pc < 1200
  · exact m_tckP_of m_cp388_19 (by omega) (by omega) ht
  by_cases h20 : pc < 1260
  · exact m_tckP_of m_cp388_20 (by omega) (by omega) ht
  exact m_tckP_of m_cp388_21 (by omega) (by omega) ht)
theorem m_ln389 : m_t389.length = 594 := by decide +kernel
theorem m_cp389_0 : m_tckP 389 0 ((m_t389.drop 0).take 60) = true := by decide +kernel
theorem m_cp389_1 : m_tckP 389 60 ((m_t389.drop 60).take 60) = true := by decide +kernel
theorem m_cp389_2 : m_tckP 389 120 ((m_t389.drop 120).take 60) = true := by decide +kernel
theorem m_cp389_3 : m_tckP 389 180 ((m_t389.drop 180).take 60) = true := by decide +kernel
theorem m_cp389_4 : m_tckP 389 240 ((m_t389.drop 240).take 60) = true := by decide +kernel
theorem m_cp389_5 : m_tckP 389 300 ((m_t389.drop 300).take 60) = true := by decide +kernel
theorem m_cp389_6 : m_tckP 389 360 ((m_t389.drop 360).take 60) = true := by decide +kernel
theorem m_cp389_7 : m_tckP 389 420 ((m_t389.drop 420).take 60) = true := by decide +kernel
theorem m_cp389_8 : m_tckP 389 480 ((m_t389.drop 480).take 60) = true := by decide +kernel
theorem m_cp389_9 : m_tckP 389 540 ((m_t389.drop 540).take 60) = true := by decide +kernel
theorem m_ck389 : m_tck 389 m_t389 = true := m_tck_mk (fun pc i q ht => by
  have hl := (List.getElem?_eq_some_iff.mp ht).1
  rw [m_ln389] at hl
  by_cases h0 : pc < 60
  · exact m_tckP_of m_cp389_0 (by omega) (by omega) ht
  by_cases h1 : pc < 120
  · exact m_tckP_of m_cp389_1 (by omega) (by omega) ht
  by_cases h2 : pc < 180
  · exact m_tckP_of m_cp389_2 (by omega) (by omega) ht
  by_cases h3 : pc < 240
  · exact m_tckP_of m_cp389_3 (by omega) (by omega) ht
  by_cases h4 : pc < 300
  · exact m_tckP_of m_cp389_4 (by omega) (by omega) ht
  by_cases h5 : pc < 360
  · exact m_tckP_of m_cp389_5 (by omega) (by omega) ht
  by_cases h6 : pc < 420
  · exact m_tckP_of m_cp389_6 (by omega) (by omega) ht
  by_cases h7 : pc < 480
  · exact m_tckP_of m_cp389_7 (by omega) (by omega) ht
  by_cases h8 : pc < 540
  · exact m_tckP_of m_cp389_8 (by omega) (by omega) ht
  exact m_tckP_of m_cp389_9 (by omega) (by omega) ht)
theorem m_ln390 : m_t390.length = 364 := by decide +kernel
theorem m_cp390_0 : m_tckP 390 0 ((m_t390.drop 0).take 60) = true := by decide +kernel
theorem m_cp390_1 : m_tckP 390 60 ((m_t390.drop 60).take 60) = true := by decide +kernel
theorem m_cp390_2 : m_tckP 390 120 ((m_t390.drop 120).take 60) = true := by decide +kernel
theorem m_cp390_3 : m_tckP 390 180 ((m_t390.drop 180).take 60) = true := by decide +kernel
theorem m_cp390_4 : m_tckP 390 240 ((m_t390.drop 240).take 60) = true := by decide +kernel
theorem m_cp390_5 : m_tckP 390 300 ((m_t390.drop 300).take 60) = true := by decide +kernel
theorem m_cp390_6 : m_tckP 390 360 ((m_t390.drop 360).take 60) = true := by decide +kernel
theorem m_ck390 : m_tck 390 m_t390 = true := m_tck_mk (fun pc i q ht => by
  have hl := (List.getElem?_eq_some_iff.mp ht).1
  rw [m_ln390] at hl
  by_cases h0 : pc < 60
  · exact m_tckP_of m_cp390_0 (by omega) (by omega) ht
  by_cases h1 : pc < 120
  · exact m_tckP_of m_cp390_1 (by omega) (by omega) ht
  by_cases h2 : pc < 180
  · exact m_tckP_of m_cp390_2 (by omega) (by omega) ht
  by_cases h3 : pc < 240
  · exact m_tckP_of m_cp390_3 (by omega) (by omega) ht
  by_cases h4 : pc < 300
  · exact m_tckP_of m_cp390_4 (by omega) (by omega) ht
  by_cases h5 : pc < 360
  · exact m_tckP_of m_cp390_5 (by omega) (by omega) ht
  exact m_tckP_of m_cp390_6 (by omega) (by omega) ht)
theorem m_ck391 : m_tck 391 m_t391 = true := by decide +kernel
theorem m_ck392 : m_tck 392 m_t392 = true := by decide +kernel
theorem m_ck393 : m_tck 393 m_t393 = true := by decide +kernel
theorem m_ck394 : m_tck 394 m_t394 = true := by decide +kernel
theorem m_ck395 : m_tck 395 m_t395 = true := by decide +kernel
theorem m_ck396 : m_tck 396 m_t396 = true := by decide +kernel
theorem m_ck397 : m_tck 397 m_t397 = true := by decide +kernel
theorem m_ck398 : m_tck 398 m_t398 = true := by decide +kernel
theorem m_ck399 : m_tck 399 m_t399 = true := by decide +kernel
theorem m_ck400 : m_tck 400 m_t400 = true := by decide +kernel
theorem m_ck401 : m_tck 401 m_t401 = true := by decide +kernel
theorem m_ck402 : m_tck 402 m_t402 = true := by decide +kernel
theorem m_ck403 : m_tck 403 m_t403 = true := by decide +kernel
theorem m_ck404 : m_tck 404 m_t404 = true := by decide +kernel
theorem m_ck405 : m_tck 405 m_t405 = true := by decide +kernel
theorem m_ck406 : m_tck 406 m_t406 = true := by decide +kernel
theorem m_ck407 : m_tck 407 m_t407 = true := by decide +kernel
theorem m_ck408 : m_tck 408 m_t408 = true := by decide +kernel
theorem m_ck409 : m_tck 409 m_t409 = true := by decide +kernel
theorem m_ck410 : m_tck 410 m_t410 = true := by decide +kernel
theorem m_ck411 : m_tck 411 m_t411 = true := by decide +kernel
theorem m_ck412 : m_tck 412 m_t412 = true := by decide +kernel
theorem m_ck413 : m_tck 413 m_t413 = true := by decide +kernel
theorem m_ck414 : m_tck 414 m_t414 = true := by decide +kernel
theorem m_ck415 : m_tck 415 m_t415 = true := by decide +kernel
theorem m_ck416 : m_tck 416 m_t416 = true := by decide +kernel
theorem m_ck417 : m_tck 417 m_t417 = true := by decide +kernel
theorem m_ck418 : m_tck 418 m_t418 = true := by decide +kernel
theorem m_ck419 : m_tck 419 m_t419 = true := by decide +kernel
theorem m_ck421 : m_tck 421 m_t421 = true := by decide +kernel
theorem m_ck422 : m_tck 422 m_t422 = true := by decide +kernel
theorem m_ck423 : m_tck 423 m_t423 = true := by decide +kernel
theorem m_ck424 : m_tck 424 m_t424 = true := by decide +kernel
theorem m_ck425 : m_tck 425 m_t425 = true := by decide +kernel
theorem m_ck426 : m_tck 426 m_t426 = true := by decide +kernel
theorem m_ck427 : m_tck 427 m_t427 = true := by decide +kernel
theorem m_ck428 : m_tck 428 m_t428 = true := by decide +kernel
theorem m_ck429 : m_tck 429 m_t429 = true := by decide +kernel
theorem m_ck430 : m_tck 430 m_t430 = true := by decide +kernel
theorem m_ck431 : m_tck 431 m_t431 = true := by decide +kernel
theorem m_ck432 : m_tck 432 m_t432 = true := by decide +kernel
theorem m_ck433 : m_tck 433 m_t433 = true := by decide +kernel
theorem m_ck434 : m_tck 434 m_t434 = true := by decide +kernel
theorem m_ck435 : m_tck 435 m_t435 = true := by decide +kernel
theorem m_ck436 : m_tck 436 m_t436 = true := by decide +kernel
theorem m_ck437 : m_tck 437 m_t437 = true := by decide +kernel
theorem m_ck438 : m_tck 438 m_t438 = true := by decide +kernel
