/-! by program (wip/whole/gen_code.py): records, stretches, decode facts -/
theorem W_law_s3 : zseg (zown W_law) (zcode W_law) 3 [(.dup, 1, 0, 0, 0)] 4 = true := by decide +kernel
theorem W_law_s7 : zseg (zown W_law) (zcode W_law) 7 [(.astore_n 1, 1, 0, 0, 0)] 8 = true := by decide +kernel
theorem W_law_s11 : zseg (zown W_law) (zcode W_law) 11 [(.dup, 1, 0, 0, 0)] 12 = true := by decide +kernel
theorem W_law_s15 : zseg (zown W_law) (zcode W_law) 15 [(.astore_n 2, 1, 0, 0, 0), (.iconst 0, 1, 0, 0, 0), (.istore_n 3, 1, 0, 0, 0)] 18 = true := by decide +kernel
theorem W_law_s18 : zseg (zown W_law) (zcode W_law) 18 [(.iload_n 3, 1, 0, 0, 0), (.aload_n 0, 1, 0, 0, 0), (.arraylength, 1, 0, 0, 0), (.bipush 6, 2, 6, 0, 0), (.isub, 1, 0, 0, 0)] 24 = true := by decide +kernel
theorem W_law_s27 : zseg (zown W_law) (zcode W_law) 27 [(.aload_n 0, 1, 0, 0, 0), (.iload_n 3, 1, 0, 0, 0), (.iaload, 1, 0, 0, 0), (.bipush 63, 2, 63, 0, 0), (.iand, 1, 0, 0, 0)] 33 = true := by decide +kernel
theorem W_law_s220 : zseg (zown W_law) (zcode W_law) 220 [(.aload_n 1, 1, 0, 0, 0), (.aload_n 0, 1, 0, 0, 0), (.iload_n 3, 1, 0, 0, 0), (.iconst 1, 1, 1, 0, 0), (.iadd, 1, 0, 0, 0), (.iaload, 1, 0, 0, 0)] 226 = true := by decide +kernel
theorem W_law_s229 : zseg (zown W_law) (zcode W_law) 229 [(.aload_n 2, 1, 0, 0, 0), (.aload_n 0, 1, 0, 0, 0), (.iload_n 3, 1, 0, 0, 0), (.iconst 1, 1, 1, 0, 0), (.iadd, 1, 0, 0, 0), (.iaload, 1, 0, 0, 0)] 235 = true := by decide +kernel
theorem W_law_s241 : zseg (zown W_law) (zcode W_law) 241 [(.iconst 0, 1, 0, 0, 0)] 242 = true := by decide +kernel
theorem W_law_s243 : zseg (zown W_law) (zcode W_law) 243 [(.aload_n 1, 1, 0, 0, 0), (.aload_n 0, 1, 0, 0, 0), (.iload_n 3, 1, 0, 0, 0), (.iconst 1, 1, 1, 0, 0), (.iadd, 1, 0, 0, 0), (.iaload, 1, 0, 0, 0), (.aload_n 0, 1, 0, 0, 0), (.iload_n 3, 1, 0, 0, 0), (.iconst 2, 1, 2, 0, 0), (.iadd, 1, 0, 0, 0), (.iaload, 1, 0, 0, 0)] 254 = true := by decide +kernel
theorem W_law_s257 : zseg (zown W_law) (zcode W_law) 257 [(.aload_n 2, 1, 0, 0, 0), (.aload_n 0, 1, 0, 0, 0), (.iload_n 3, 1, 0, 0, 0), (.iconst 1, 1, 1, 0, 0), (.iadd, 1, 0, 0, 0), (.iaload, 1, 0, 0, 0), (.aload_n 0, 1, 0, 0, 0), (.iload_n 3, 1, 0, 0, 0), (.iconst 2, 1, 2, 0, 0), (.iadd, 1, 0, 0, 0), (.iaload, 1, 0, 0, 0)] 268 = true := by decide +kernel
theorem W_law_s274 : zseg (zown W_law) (zcode W_law) 274 [(.iconst 0, 1, 0, 0, 0)] 275 = true := by decide +kernel
theorem W_law_s276 : zseg (zown W_law) (zcode W_law) 276 [(.aload_n 1, 1, 0, 0, 0), (.aload_n 0, 1, 0, 0, 0), (.iload_n 3, 1, 0, 0, 0), (.iconst 1, 1, 1, 0, 0), (.iadd, 1, 0, 0, 0), (.iaload, 1, 0, 0, 0), (.aload_n 0, 1, 0, 0, 0), (.iload_n 3, 1, 0, 0, 0), (.iconst 2, 1, 2, 0, 0), (.iadd, 1, 0, 0, 0), (.iaload, 1, 0, 0, 0), (.aload_n 0, 1, 0, 0, 0), (.iload_n 3, 1, 0, 0, 0), (.iconst 3, 1, 3, 0, 0), (.iadd, 1, 0, 0, 0), (.iaload, 1, 0, 0, 0)] 292 = true := by decide +kernel
theorem W_law_s295 : zseg (zown W_law) (zcode W_law) 295 [(.aload_n 2, 1, 0, 0, 0), (.aload_n 0, 1, 0, 0, 0), (.iload_n 3, 1, 0, 0, 0), (.iconst 1, 1, 1, 0, 0), (.iadd, 1, 0, 0, 0), (.iaload, 1, 0, 0, 0), (.aload_n 0, 1, 0, 0, 0), (.iload_n 3, 1, 0, 0, 0), (.iconst 2, 1, 2, 0, 0), (.iadd, 1, 0, 0, 0), (.iaload, 1, 0, 0, 0), (.aload_n 0, 1, 0, 0, 0), (.iload_n 3, 1, 0, 0, 0), (.iconst 3, 1, 3, 0, 0), (.iadd, 1, 0, 0, 0), (.iaload, 1, 0, 0, 0)] 311 = true := by decide +kernel
theorem W_law_s317 : zseg (zown W_law) (zcode W_law) 317 [(.iconst 0, 1, 0, 0, 0)] 318 = true := by decide +kernel
theorem W_law_s319 : zseg (zown W_law) (zcode W_law) 319 [(.aload_n 1, 1, 0, 0, 0), (.aload_n 0, 1, 0, 0, 0), (.iload_n 3, 1, 0, 0, 0), (.iconst 1, 1, 1, 0, 0), (.iadd, 1, 0, 0, 0), (.iaload, 1, 0, 0, 0), (.aload_n 0, 1, 0, 0, 0), (.iload_n 3, 1, 0, 0, 0), (.iconst 2, 1, 2, 0, 0), (.iadd, 1, 0, 0, 0), (.iaload, 1, 0, 0, 0), (.aload_n 0, 1, 0, 0, 0), (.iload_n 3, 1, 0, 0, 0), (.iconst 3, 1, 3, 0, 0), (.iadd, 1, 0, 0, 0), (.iaload, 1, 0, 0, 0)] 335 = true := by decide +kernel
theorem W_law_s338 : zseg (zown W_law) (zcode W_law) 338 [(.aload_n 2, 1, 0, 0, 0), (.aload_n 0, 1, 0, 0, 0), (.iload_n 3, 1, 0, 0, 0), (.iconst 1, 1, 1, 0, 0), (.iadd, 1, 0, 0, 0), (.iaload, 1, 0, 0, 0), (.aload_n 0, 1, 0, 0, 0), (.iload_n 3, 1, 0, 0, 0), (.iconst 2, 1, 2, 0, 0), (.iadd, 1, 0, 0, 0), (.iaload, 1, 0, 0, 0), (.aload_n 0, 1, 0, 0, 0), (.iload_n 3, 1, 0, 0, 0), (.iconst 3, 1, 3, 0, 0), (.iadd, 1, 0, 0, 0), (.iaload, 1, 0, 0, 0)] 354 = true := by decide +kernel
theorem W_law_s360 : zseg (zown W_law) (zcode W_law) 360 [(.iconst 0, 1, 0, 0, 0)] 361 = true := by decide +kernel
theorem W_law_s362 : zseg (zown W_law) (zcode W_law) 362 [(.aload_n 1, 1, 0, 0, 0), (.aload_n 0, 1, 0, 0, 0), (.iload_n 3, 1, 0, 0, 0), (.iconst 1, 1, 1, 0, 0), (.iadd, 1, 0, 0, 0), (.iaload, 1, 0, 0, 0), (.aload_n 0, 1, 0, 0, 0), (.iload_n 3, 1, 0, 0, 0), (.iconst 2, 1, 2, 0, 0), (.iadd, 1, 0, 0, 0), (.iaload, 1, 0, 0, 0)] 373 = true := by decide +kernel
theorem W_law_s376 : zseg (zown W_law) (zcode W_law) 376 [(.aload_n 2, 1, 0, 0, 0), (.aload_n 0, 1, 0, 0, 0), (.iload_n 3, 1, 0, 0, 0), (.iconst 1, 1, 1, 0, 0), (.iadd, 1, 0, 0, 0), (.iaload, 1, 0, 0, 0), (.aload_n 0, 1, 0, 0, 0), (.iload_n 3, 1, 0, 0, 0), (.iconst 2, 1, 2, 0, 0), (.iadd, 1, 0, 0, 0), (.iaload, 1, 0, 0, 0)] 387 = true := by decide +kernel
theorem W_law_s393 : zseg (zown W_law) (zcode W_law) 393 [(.iconst 0, 1, 0, 0, 0)] 394 = true := by decide +kernel
theorem W_law_s395 : zseg (zown W_law) (zcode W_law) 395 [(.aload_n 1, 1, 0, 0, 0), (.aload_n 0, 1, 0, 0, 0), (.iload_n 3, 1, 0, 0, 0), (.iconst 1, 1, 1, 0, 0), (.iadd, 1, 0, 0, 0), (.iaload, 1, 0, 0, 0)] 401 = true := by decide +kernel
theorem W_law_s404 : zseg (zown W_law) (zcode W_law) 404 [(.aload_n 2, 1, 0, 0, 0), (.aload_n 0, 1, 0, 0, 0), (.iload_n 3, 1, 0, 0, 0), (.iconst 1, 1, 1, 0, 0), (.iadd, 1, 0, 0, 0), (.iaload, 1, 0, 0, 0)] 410 = true := by decide +kernel
theorem W_law_s416 : zseg (zown W_law) (zcode W_law) 416 [(.iconst 0, 1, 0, 0, 0)] 417 = true := by decide +kernel
theorem W_law_s418 : zseg (zown W_law) (zcode W_law) 418 [(.aload_n 1, 1, 0, 0, 0)] 419 = true := by decide +kernel
theorem W_law_s422 : zseg (zown W_law) (zcode W_law) 422 [(.aload_n 2, 1, 0, 0, 0)] 423 = true := by decide +kernel
theorem W_law_s429 : zseg (zown W_law) (zcode W_law) 429 [(.iconst 0, 1, 0, 0, 0)] 430 = true := by decide +kernel
theorem W_law_s431 : zseg (zown W_law) (zcode W_law) 431 [(.aload_n 1, 1, 0, 0, 0), (.aload_n 0, 1, 0, 0, 0), (.iload_n 3, 1, 0, 0, 0), (.iconst 1, 1, 1, 0, 0), (.iadd, 1, 0, 0, 0), (.iaload, 1, 0, 0, 0), (.aload_n 0, 1, 0, 0, 0), (.iload_n 3, 1, 0, 0, 0), (.iconst 2, 1, 2, 0, 0), (.iadd, 1, 0, 0, 0), (.iaload, 1, 0, 0, 0)] 442 = true := by decide +kernel
theorem W_law_s445 : zseg (zown W_law) (zcode W_law) 445 [(.aload_n 2, 1, 0, 0, 0), (.aload_n 0, 1, 0, 0, 0), (.iload_n 3, 1, 0, 0, 0), (.iconst 1, 1, 1, 0, 0), (.iadd, 1, 0, 0, 0), (.iaload, 1, 0, 0, 0), (.aload_n 0, 1, 0, 0, 0), (.iload_n 3, 1, 0, 0, 0), (.iconst 2, 1, 2, 0, 0), (.iadd, 1, 0, 0, 0), (.iaload, 1, 0, 0, 0)] 456 = true := by decide +kernel
theorem W_law_s462 : zseg (zown W_law) (zcode W_law) 462 [(.iconst 0, 1, 0, 0, 0)] 463 = true := by decide +kernel
theorem W_law_s464 : zseg (zown W_law) (zcode W_law) 464 [(.aload_n 1, 1, 0, 0, 0), (.aload_n 0, 1, 0, 0, 0), (.iload_n 3, 1, 0, 0, 0), (.iconst 1, 1, 1, 0, 0), (.iadd, 1, 0, 0, 0), (.iaload, 1, 0, 0, 0), (.aload_n 0, 1, 0, 0, 0), (.iload_n 3, 1, 0, 0, 0), (.iconst 2, 1, 2, 0, 0), (.iadd, 1, 0, 0, 0), (.iaload, 1, 0, 0, 0), (.aload_n 0, 1, 0, 0, 0), (.iload_n 3, 1, 0, 0, 0), (.iconst 3, 1, 3, 0, 0), (.iadd, 1, 0, 0, 0), (.iaload, 1, 0, 0, 0)] 480 = true := by decide +kernel
theorem W_law_s483 : zseg (zown W_law) (zcode W_law) 483 [(.aload_n 2, 1, 0, 0, 0), (.aload_n 0, 1, 0, 0, 0), (.iload_n 3, 1, 0, 0, 0), (.iconst 1, 1, 1, 0, 0), (.iadd, 1, 0, 0, 0), (.iaload, 1, 0, 0, 0), (.aload_n 0, 1, 0, 0, 0), (.iload_n 3, 1, 0, 0, 0), (.iconst 2, 1, 2, 0, 0), (.iadd, 1, 0, 0, 0), (.iaload, 1, 0, 0, 0), (.aload_n 0, 1, 0, 0, 0), (.iload_n 3, 1, 0, 0, 0), (.iconst 3, 1, 3, 0, 0), (.iadd, 1, 0, 0, 0), (.iaload, 1, 0, 0, 0)] 499 = true := by decide +kernel
theorem W_law_s505 : zseg (zown W_law) (zcode W_law) 505 [(.iconst 0, 1, 0, 0, 0)] 506 = true := by decide +kernel
theorem W_law_s507 : zseg (zown W_law) (zcode W_law) 507 [(.aload_n 1, 1, 0, 0, 0), (.aload_n 0, 1, 0, 0, 0), (.iload_n 3, 1, 0, 0, 0), (.iconst 1, 1, 1, 0, 0), (.iadd, 1, 0, 0, 0), (.iaload, 1, 0, 0, 0), (.aload_n 0, 1, 0, 0, 0), (.iload_n 3, 1, 0, 0, 0), (.iconst 2, 1, 2, 0, 0), (.iadd, 1, 0, 0, 0), (.iaload, 1, 0, 0, 0)] 518 = true := by decide +kernel
theorem W_law_s521 : zseg (zown W_law) (zcode W_law) 521 [(.aload_n 2, 1, 0, 0, 0), (.aload_n 0, 1, 0, 0, 0), (.iload_n 3, 1, 0, 0, 0), (.iconst 1, 1, 1, 0, 0), (.iadd, 1, 0, 0, 0), (.iaload, 1, 0, 0, 0), (.aload_n 0, 1, 0, 0, 0), (.iload_n 3, 1, 0, 0, 0), (.iconst 2, 1, 2, 0, 0), (.iadd, 1, 0, 0, 0), (.iaload, 1, 0, 0, 0)] 532 = true := by decide +kernel
theorem W_law_s538 : zseg (zown W_law) (zcode W_law) 538 [(.iconst 0, 1, 0, 0, 0)] 539 = true := by decide +kernel
theorem W_law_s540 : zseg (zown W_law) (zcode W_law) 540 [(.aload_n 1, 1, 0, 0, 0), (.aload_n 0, 1, 0, 0, 0), (.iload_n 3, 1, 0, 0, 0), (.iconst 1, 1, 1, 0, 0), (.iadd, 1, 0, 0, 0), (.iaload, 1, 0, 0, 0), (.aload_n 0, 1, 0, 0, 0), (.iload_n 3, 1, 0, 0, 0), (.iconst 2, 1, 2, 0, 0), (.iadd, 1, 0, 0, 0), (.iaload, 1, 0, 0, 0)] 551 = true := by decide +kernel
theorem W_law_s554 : zseg (zown W_law) (zcode W_law) 554 [(.aload_n 2, 1, 0, 0, 0), (.aload_n 0, 1, 0, 0, 0), (.iload_n 3, 1, 0, 0, 0), (.iconst 1, 1, 1, 0, 0), (.iadd, 1, 0, 0, 0), (.iaload, 1, 0, 0, 0), (.aload_n 0, 1, 0, 0, 0), (.iload_n 3, 1, 0, 0, 0), (.iconst 2, 1, 2, 0, 0), (.iadd, 1, 0, 0, 0), (.iaload, 1, 0, 0, 0)] 565 = true := by decide +kernel
theorem W_law_s571 : zseg (zown W_law) (zcode W_law) 571 [(.iconst 0, 1, 0, 0, 0)] 572 = true := by decide +kernel
theorem W_law_s573 : zseg (zown W_law) (zcode W_law) 573 [(.aload_n 1, 1, 0, 0, 0), (.aload_n 0, 1, 0, 0, 0), (.iload_n 3, 1, 0, 0, 0), (.iconst 1, 1, 1, 0, 0), (.iadd, 1, 0, 0, 0), (.iaload, 1, 0, 0, 0), (.aload_n 0, 1, 0, 0, 0), (.iload_n 3, 1, 0, 0, 0), (.iconst 2, 1, 2, 0, 0), (.iadd, 1, 0, 0, 0), (.iaload, 1, 0, 0, 0), (.aload_n 0, 1, 0, 0, 0), (.iload_n 3, 1, 0, 0, 0), (.iconst 3, 1, 3, 0, 0), (.iadd, 1, 0, 0, 0), (.iaload, 1, 0, 0, 0)] 589 = true := by decide +kernel
theorem W_law_s592 : zseg (zown W_law) (zcode W_law) 592 [(.aload_n 2, 1, 0, 0, 0), (.aload_n 0, 1, 0, 0, 0), (.iload_n 3, 1, 0, 0, 0), (.iconst 1, 1, 1, 0, 0), (.iadd, 1, 0, 0, 0), (.iaload, 1, 0, 0, 0), (.aload_n 0, 1, 0, 0, 0), (.iload_n 3, 1, 0, 0, 0), (.iconst 2, 1, 2, 0, 0), (.iadd, 1, 0, 0, 0), (.iaload, 1, 0, 0, 0), (.aload_n 0, 1, 0, 0, 0), (.iload_n 3, 1, 0, 0, 0), (.iconst 3, 1, 3, 0, 0), (.iadd, 1, 0, 0, 0), (.iaload, 1, 0, 0, 0)] 608 = true := by decide +kernel
theorem W_law_s614 : zseg (zown W_law) (zcode W_law) 614 [(.iconst 0, 1, 0, 0, 0)] 615 = true := by decide +kernel
theorem W_law_s616 : zseg (zown W_law) (zcode W_law) 616 [(.aload_n 1, 1, 0, 0, 0), (.aload_n 0, 1, 0, 0, 0), (.iload_n 3, 1, 0, 0, 0), (.iconst 1, 1, 1, 0, 0), (.iadd, 1, 0, 0, 0), (.iaload, 1, 0, 0, 0), (.aload_n 0, 1, 0, 0, 0), (.iload_n 3, 1, 0, 0, 0), (.iconst 2, 1, 2, 0, 0), (.iadd, 1, 0, 0, 0), (.iaload, 1, 0, 0, 0), (.aload_n 0, 1, 0, 0, 0), (.iload_n 3, 1, 0, 0, 0), (.iconst 3, 1, 3, 0, 0), (.iadd, 1, 0, 0, 0), (.iaload, 1, 0, 0, 0)] 632 = true := by decide +kernel
theorem W_law_s635 : zseg (zown W_law) (zcode W_law) 635 [(.aload_n 2, 1, 0, 0, 0), (.aload_n 0, 1, 0, 0, 0), (.iload_n 3, 1, 0, 0, 0), (.iconst 1, 1, 1, 0, 0), (.iadd, 1, 0, 0, 0), (.iaload, 1, 0, 0, 0), (.aload_n 0, 1, 0, 0, 0), (.iload_n 3, 1, 0, 0, 0), (.iconst 2, 1, 2, 0, 0), (.iadd, 1, 0, 0, 0), (.iaload, 1, 0, 0, 0), (.aload_n 0, 1, 0, 0, 0), (.iload_n 3, 1, 0, 0, 0), (.iconst 3, 1, 3, 0, 0), (.iadd, 1, 0, 0, 0), (.iaload, 1, 0, 0, 0)] 651 = true := by decide +kernel
theorem W_law_s657 : zseg (zown W_law) (zcode W_law) 657 [(.iconst 0, 1, 0, 0, 0)] 658 = true := by decide +kernel
theorem W_law_s659 : zseg (zown W_law) (zcode W_law) 659 [(.aload_n 1, 1, 0, 0, 0), (.aload_n 0, 1, 0, 0, 0), (.iload_n 3, 1, 0, 0, 0), (.iconst 1, 1, 1, 0, 0), (.iadd, 1, 0, 0, 0), (.iaload, 1, 0, 0, 0), (.aload_n 0, 1, 0, 0, 0), (.iload_n 3, 1, 0, 0, 0), (.iconst 2, 1, 2, 0, 0), (.iadd, 1, 0, 0, 0), (.iaload, 1, 0, 0, 0)] 670 = true := by decide +kernel
theorem W_law_s673 : zseg (zown W_law) (zcode W_law) 673 [(.aload_n 2, 1, 0, 0, 0), (.aload_n 0, 1, 0, 0, 0), (.iload_n 3, 1, 0, 0, 0), (.iconst 1, 1, 1, 0, 0), (.iadd, 1, 0, 0, 0), (.iaload, 1, 0, 0, 0), (.aload_n 0, 1, 0, 0, 0), (.iload_n 3, 1, 0, 0, 0), (.iconst 2, 1, 2, 0, 0), (.iadd, 1, 0, 0, 0), (.iaload, 1, 0, 0, 0)] 684 = true := by decide +kernel
theorem W_law_s690 : zseg (zown W_law) (zcode W_law) 690 [(.iconst 0, 1, 0, 0, 0)] 691 = true := by decide +kernel
theorem W_law_s692 : zseg (zown W_law) (zcode W_law) 692 [(.aload_n 1, 1, 0, 0, 0), (.aload_n 0, 1, 0, 0, 0), (.iload_n 3, 1, 0, 0, 0), (.iconst 1, 1, 1, 0, 0), (.iadd, 1, 0, 0, 0), (.iaload, 1, 0, 0, 0), (.aload_n 0, 1, 0, 0, 0), (.iload_n 3, 1, 0, 0, 0), (.iconst 2, 1, 2, 0, 0), (.iadd, 1, 0, 0, 0), (.iaload, 1, 0, 0, 0)] 703 = true := by decide +kernel
theorem W_law_s706 : zseg (zown W_law) (zcode W_law) 706 [(.aload_n 2, 1, 0, 0, 0), (.aload_n 0, 1, 0, 0, 0), (.iload_n 3, 1, 0, 0, 0), (.iconst 1, 1, 1, 0, 0), (.iadd, 1, 0, 0, 0), (.iaload, 1, 0, 0, 0), (.aload_n 0, 1, 0, 0, 0), (.iload_n 3, 1, 0, 0, 0), (.iconst 2, 1, 2, 0, 0), (.iadd, 1, 0, 0, 0), (.iaload, 1, 0, 0, 0)] 717 = true := by decide +kernel
theorem W_law_s723 : zseg (zown W_law) (zcode W_law) 723 [(.iconst 0, 1, 0, 0, 0)] 724 = true := by decide +kernel
theorem W_law_s725 : zseg (zown W_law) (zcode W_law) 725 [(.aload_n 1, 1, 0, 0, 0), (.aload_n 0, 1, 0, 0, 0), (.iload_n 3, 1, 0, 0, 0), (.iconst 1, 1, 1, 0, 0), (.iadd, 1, 0, 0, 0), (.iaload, 1, 0, 0, 0), (.aload_n 0, 1, 0, 0, 0), (.iload_n 3, 1, 0, 0, 0), (.iconst 2, 1, 2, 0, 0), (.iadd, 1, 0, 0, 0), (.iaload, 1, 0, 0, 0)] 736 = true := by decide +kernel
theorem W_law_s739 : zseg (zown W_law) (zcode W_law) 739 [(.aload_n 2, 1, 0, 0, 0), (.aload_n 0, 1, 0, 0, 0), (.iload_n 3, 1, 0, 0, 0), (.iconst 1, 1, 1, 0, 0), (.iadd, 1, 0, 0, 0), (.iaload, 1, 0, 0, 0), (.aload_n 0, 1, 0, 0, 0), (.iload_n 3, 1, 0, 0, 0), (.iconst 2, 1, 2, 0, 0), (.iadd, 1, 0, 0, 0), (.iaload, 1, 0, 0, 0)] 750 = true := by decide +kernel
theorem W_law_s756 : zseg (zown W_law) (zcode W_law) 756 [(.iconst 0, 1, 0, 0, 0)] 757 = true := by decide +kernel
theorem W_law_s758 : zseg (zown W_law) (zcode W_law) 758 [(.aload_n 1, 1, 0, 0, 0), (.aload_n 0, 1, 0, 0, 0), (.iload_n 3, 1, 0, 0, 0), (.iconst 1, 1, 1, 0, 0), (.iadd, 1, 0, 0, 0), (.iaload, 1, 0, 0, 0), (.aload_n 0, 1, 0, 0, 0), (.iload_n 3, 1, 0, 0, 0), (.iconst 2, 1, 2, 0, 0), (.iadd, 1, 0, 0, 0), (.iaload, 1, 0, 0, 0), (.aload_n 0, 1, 0, 0, 0), (.iload_n 3, 1, 0, 0, 0), (.iconst 3, 1, 3, 0, 0), (.iadd, 1, 0, 0, 0), (.iaload, 1, 0, 0, 0), (.aload_n 0, 1, 0, 0, 0), (.iload_n 3, 1, 0, 0, 0), (.iconst 4, 1, 4, 0, 0), (.iadd, 1, 0, 0, 0), (.iaload, 1, 0, 0, 0)] 779 = true := by decide +kernel
theorem W_law_s782 : zseg (zown W_law) (zcode W_law) 782 [(.aload_n 2, 1, 0, 0, 0), (.aload_n 0, 1, 0, 0, 0), (.iload_n 3, 1, 0, 0, 0), (.iconst 1, 1, 1, 0, 0), (.iadd, 1, 0, 0, 0), (.iaload, 1, 0, 0, 0), (.aload_n 0, 1, 0, 0, 0), (.iload_n 3, 1, 0, 0, 0), (.iconst 2, 1, 2, 0, 0), (.iadd, 1, 0, 0, 0), (.iaload, 1, 0, 0, 0), (.aload_n 0, 1, 0, 0, 0), (.iload_n 3, 1, 0, 0, 0), (.iconst 3, 1, 3, 0, 0), (.iadd, 1, 0, 0, 0), (.iaload, 1, 0, 0, 0), (.aload_n 0, 1, 0, 0, 0), (.iload_n 3, 1, 0, 0, 0), (.iconst 4, 1, 4, 0, 0), (.iadd, 1, 0, 0, 0), (.iaload, 1, 0, 0, 0)] 803 = true := by decide +kernel
theorem W_law_s809 : zseg (zown W_law) (zcode W_law) 809 [(.iconst 0, 1, 0, 0, 0)] 810 = true := by decide +kernel
theorem W_law_s811 : zseg (zown W_law) (zcode W_law) 811 [(.aload_n 1, 1, 0, 0, 0), (.aload_n 0, 1, 0, 0, 0), (.iload_n 3, 1, 0, 0, 0), (.iconst 1, 1, 1, 0, 0), (.iadd, 1, 0, 0, 0), (.iaload, 1, 0, 0, 0), (.aload_n 0, 1, 0, 0, 0), (.iload_n 3, 1, 0, 0, 0), (.iconst 2, 1, 2, 0, 0), (.iadd, 1, 0, 0, 0), (.iaload, 1, 0, 0, 0), (.aload_n 0, 1, 0, 0, 0), (.iload_n 3, 1, 0, 0, 0), (.iconst 3, 1, 3, 0, 0), (.iadd, 1, 0, 0, 0), (.iaload, 1, 0, 0, 0)] 827 = true := by decide +kernel
theorem W_law_s830 : zseg (zown W_law) (zcode W_law) 830 [(.aload_n 2, 1, 0, 0, 0), (.aload_n 0, 1, 0, 0, 0), (.iload_n 3, 1, 0, 0, 0), (.iconst 1, 1, 1, 0, 0), (.iadd, 1, 0, 0, 0), (.iaload, 1, 0, 0, 0), (.aload_n 0, 1, 0, 0, 0), (.iload_n 3, 1, 0, 0, 0), (.iconst 2, 1, 2, 0, 0), (.iadd, 1, 0, 0, 0), (.iaload, 1, 0, 0, 0), (.aload_n 0, 1, 0, 0, 0), (.iload_n 3, 1, 0, 0, 0), (.iconst 3, 1, 3, 0, 0), (.iadd, 1, 0, 0, 0), (.iaload, 1, 0, 0, 0)] 846 = true := by decide +kernel
theorem W_law_s852 : zseg (zown W_law) (zcode W_law) 852 [(.iconst 0, 1, 0, 0, 0)] 853 = true := by decide +kernel
theorem W_law_s854 : zseg (zown W_law) (zcode W_law) 854 [(.aload_n 1, 1, 0, 0, 0), (.aload_n 0, 1, 0, 0, 0), (.iload_n 3, 1, 0, 0, 0), (.iconst 1, 1, 1, 0, 0), (.iadd, 1, 0, 0, 0), (.iaload, 1, 0, 0, 0), (.aload_n 0, 1, 0, 0, 0), (.iload_n 3, 1, 0, 0, 0), (.iconst 2, 1, 2, 0, 0), (.iadd, 1, 0, 0, 0), (.iaload, 1, 0, 0, 0), (.aload_n 0, 1, 0, 0, 0), (.iload_n 3, 1, 0, 0, 0), (.iconst 3, 1, 3, 0, 0), (.iadd, 1, 0, 0, 0), (.iaload, 1, 0, 0, 0)] 870 = true := by decide +kernel
theorem W_law_s873 : zseg (zown W_law) (zcode W_law) 873 [(.aload_n 2, 1, 0, 0, 0), (.aload_n 0, 1, 0, 0, 0), (.iload_n 3, 1, 0, 0, 0), (.iconst 1, 1, 1, 0, 0), (.iadd, 1, 0, 0, 0), (.iaload, 1, 0, 0, 0), (.aload_n 0, 1, 0, 0, 0), (.iload_n 3, 1, 0, 0, 0), (.iconst 2, 1, 2, 0, 0), (.iadd, 1, 0, 0, 0), (.iaload, 1, 0, 0, 0), (.aload_n 0, 1, 0, 0, 0), (.iload_n 3, 1, 0, 0, 0), (.iconst 3, 1, 3, 0, 0), (.iadd, 1, 0, 0, 0), (.iaload, 1, 0, 0, 0)] 889 = true := by decide +kernel
theorem W_law_s895 : zseg (zown W_law) (zcode W_law) 895 [(.iconst 0, 1, 0, 0, 0)] 896 = true := by decide +kernel
theorem W_law_s897 : zseg (zown W_law) (zcode W_law) 897 [(.aload_n 1, 1, 0, 0, 0), (.aload_n 0, 1, 0, 0, 0), (.iload_n 3, 1, 0, 0, 0), (.iconst 1, 1, 1, 0, 0), (.iadd, 1, 0, 0, 0), (.iaload, 1, 0, 0, 0), (.aload_n 0, 1, 0, 0, 0), (.iload_n 3, 1, 0, 0, 0), (.iconst 2, 1, 2, 0, 0), (.iadd, 1, 0, 0, 0), (.iaload, 1, 0, 0, 0), (.aload_n 0, 1, 0, 0, 0), (.iload_n 3, 1, 0, 0, 0), (.iconst 3, 1, 3, 0, 0), (.iadd, 1, 0, 0, 0), (.iaload, 1, 0, 0, 0), (.aload_n 0, 1, 0, 0, 0), (.iload_n 3, 1, 0, 0, 0), (.iconst 4, 1, 4, 0, 0), (.iadd, 1, 0, 0, 0), (.iaload, 1, 0, 0, 0)] 918 = true := by decide +kernel
theorem W_law_s921 : zseg (zown W_law) (zcode W_law) 921 [(.aload_n 2, 1, 0, 0, 0), (.aload_n 0, 1, 0, 0, 0), (.iload_n 3, 1, 0, 0, 0), (.iconst 1, 1, 1, 0, 0), (.iadd, 1, 0, 0, 0), (.iaload, 1, 0, 0, 0), (.aload_n 0, 1, 0, 0, 0), (.iload_n 3, 1, 0, 0, 0), (.iconst 2, 1, 2, 0, 0), (.iadd, 1, 0, 0, 0), (.iaload, 1, 0, 0, 0), (.aload_n 0, 1, 0, 0, 0), (.iload_n 3, 1, 0, 0, 0), (.iconst 3, 1, 3, 0, 0), (.iadd, 1, 0, 0, 0), (.iaload, 1, 0, 0, 0), (.aload_n 0, 1, 0, 0, 0), (.iload_n 3, 1, 0, 0, 0), (.iconst 4, 1, 4, 0, 0), (.iadd, 1, 0, 0, 0), (.iaload, 1, 0, 0, 0)] 942 = true := by decide +kernel
theorem W_law_s948 : zseg (zown W_law) (zcode W_law) 948 [(.iconst 0, 1, 0, 0, 0)] 949 = true := by decide +kernel
theorem W_law_s950 : zseg (zown W_law) (zcode W_law) 950 [(.aload_n 1, 1, 0, 0, 0), (.aload_n 0, 1, 0, 0, 0), (.iload_n 3, 1, 0, 0, 0), (.iconst 1, 1, 1, 0, 0), (.iadd, 1, 0, 0, 0), (.iaload, 1, 0, 0, 0), (.aload_n 0, 1, 0, 0, 0), (.iload_n 3, 1, 0, 0, 0), (.iconst 2, 1, 2, 0, 0), (.iadd, 1, 0, 0, 0), (.iaload, 1, 0, 0, 0), (.aload_n 0, 1, 0, 0, 0), (.iload_n 3, 1, 0, 0, 0), (.iconst 3, 1, 3, 0, 0), (.iadd, 1, 0, 0, 0), (.iaload, 1, 0, 0, 0)] 966 = true := by decide +kernel
theorem W_law_s969 : zseg (zown W_law) (zcode W_law) 969 [(.aload_n 2, 1, 0, 0, 0), (.aload_n 0, 1, 0, 0, 0), (.iload_n 3, 1, 0, 0, 0), (.iconst 1, 1, 1, 0, 0), (.iadd, 1, 0, 0, 0), (.iaload, 1, 0, 0, 0), (.aload_n 0, 1, 0, 0, 0), (.iload_n 3, 1, 0, 0, 0), (.iconst 2, 1, 2, 0, 0), (.iadd, 1, 0, 0, 0), (.iaload, 1, 0, 0, 0), (.aload_n 0, 1, 0, 0, 0), (.iload_n 3, 1, 0, 0, 0), (.iconst 3, 1, 3, 0, 0), (.iadd, 1, 0, 0, 0), (.iaload, 1, 0, 0, 0)] 985 = true := by decide +kernel
theorem W_law_s991 : zseg (zown W_law) (zcode W_law) 991 [(.iconst 0, 1, 0, 0, 0)] 992 = true := by decide +kernel
theorem W_law_s993 : zseg (zown W_law) (zcode W_law) 993 [(.aload_n 1, 1, 0, 0, 0), (.aload_n 0, 1, 0, 0, 0), (.iload_n 3, 1, 0, 0, 0), (.iconst 1, 1, 1, 0, 0), (.iadd, 1, 0, 0, 0), (.iaload, 1, 0, 0, 0), (.aload_n 0, 1, 0, 0, 0), (.iload_n 3, 1, 0, 0, 0), (.iconst 2, 1, 2, 0, 0), (.iadd, 1, 0, 0, 0), (.iaload, 1, 0, 0, 0), (.aload_n 0, 1, 0, 0, 0), (.iload_n 3, 1, 0, 0, 0), (.iconst 3, 1, 3, 0, 0), (.iadd, 1, 0, 0, 0), (.iaload, 1, 0, 0, 0)] 1009 = true := by decide +kernel
theorem W_law_s1012 : zseg (zown W_law) (zcode W_law) 1012 [(.aload_n 2, 1, 0, 0, 0), (.aload_n 0, 1, 0, 0, 0), (.iload_n 3, 1, 0, 0, 0), (.iconst 1, 1, 1, 0, 0), (.iadd, 1, 0, 0, 0), (.iaload, 1, 0, 0, 0), (.aload_n 0, 1, 0, 0, 0), (.iload_n 3, 1, 0, 0, 0), (.iconst 2, 1, 2, 0, 0), (.iadd, 1, 0, 0, 0), (.iaload, 1, 0, 0, 0), (.aload_n 0, 1, 0, 0, 0), (.iload_n 3, 1, 0, 0, 0), (.iconst 3, 1, 3, 0, 0), (.iadd, 1, 0, 0, 0), (.iaload, 1, 0, 0, 0)] 1028 = true := by decide +kernel
theorem W_law_s1034 : zseg (zown W_law) (zcode W_law) 1034 [(.iconst 0, 1, 0, 0, 0)] 1035 = true := by decide +kernel
theorem W_law_s1036 : zseg (zown W_law) (zcode W_law) 1036 [(.aload_n 1, 1, 0, 0, 0), (.aload_n 0, 1, 0, 0, 0), (.iload_n 3, 1, 0, 0, 0), (.iconst 1, 1, 1, 0, 0), (.iadd, 1, 0, 0, 0), (.iaload, 1, 0, 0, 0)] 1042 = true := by decide +kernel
theorem W_law_s1045 : zseg (zown W_law) (zcode W_law) 1045 [(.aload_n 2, 1, 0, 0, 0), (.aload_n 0, 1, 0, 0, 0), (.iload_n 3, 1, 0, 0, 0), (.iconst 1, 1, 1, 0, 0), (.iadd, 1, 0, 0, 0), (.iaload, 1, 0, 0, 0)] 1051 = true := by decide +kernel
theorem W_law_s1057 : zseg (zown W_law) (zcode W_law) 1057 [(.iconst 0, 1, 0, 0, 0)] 1058 = true := by decide +kernel
theorem W_law_s1059 : zseg (zown W_law) (zcode W_law) 1059 [(.aload_n 1, 1, 0, 0, 0), (.aload_n 0, 1, 0, 0, 0), (.iload_n 3, 1, 0, 0, 0), (.iconst 1, 1, 1, 0, 0), (.iadd, 1, 0, 0, 0), (.iaload, 1, 0, 0, 0), (.aload_n 0, 1, 0, 0, 0), (.iload_n 3, 1, 0, 0, 0), (.iconst 2, 1, 2, 0, 0), (.iadd, 1, 0, 0, 0), (.iaload, 1, 0, 0, 0), (.aload_n 0, 1, 0, 0, 0), (.iload_n 3, 1, 0, 0, 0), (.iconst 3, 1, 3, 0, 0), (.iadd, 1, 0, 0, 0), (.iaload, 1, 0, 0, 0), (.aload_n 0, 1, 0, 0, 0), (.iload_n 3, 1, 0, 0, 0), (.iconst 4, 1, 4, 0, 0), (.iadd, 1, 0, 0, 0), (.iaload, 1, 0, 0, 0)] 1080 = true := by decide +kernel
theorem W_law_s1083 : zseg (zown W_law) (zcode W_law) 1083 [(.aload_n 2, 1, 0, 0, 0), (.aload_n 0, 1, 0, 0, 0), (.iload_n 3, 1, 0, 0, 0), (.iconst 1, 1, 1, 0, 0), (.iadd, 1, 0, 0, 0), (.iaload, 1, 0, 0, 0), (.aload_n 0, 1, 0, 0, 0), (.iload_n 3, 1, 0, 0, 0), (.iconst 2, 1, 2, 0, 0), (.iadd, 1, 0, 0, 0), (.iaload, 1, 0, 0, 0), (.aload_n 0, 1, 0, 0, 0), (.iload_n 3, 1, 0, 0, 0), (.iconst 3, 1, 3, 0, 0), (.iadd, 1, 0, 0, 0), (.iaload, 1, 0, 0, 0), (.aload_n 0, 1, 0, 0, 0), (.iload_n 3, 1, 0, 0, 0), (.iconst 4, 1, 4, 0, 0), (.iadd, 1, 0, 0, 0), (.iaload, 1, 0, 0, 0)] 1104 = true := by decide +kernel
theorem W_law_s1110 : zseg (zown W_law) (zcode W_law) 1110 [(.iconst 0, 1, 0, 0, 0)] 1111 = true := by decide +kernel
theorem W_law_s1112 : zseg (zown W_law) (zcode W_law) 1112 [(.aload_n 1, 1, 0, 0, 0), (.aload_n 0, 1, 0, 0, 0), (.iload_n 3, 1, 0, 0, 0), (.iconst 1, 1, 1, 0, 0), (.iadd, 1, 0, 0, 0), (.iaload, 1, 0, 0, 0)] 1118 = true := by decide +kernel
theorem W_law_s1121 : zseg (zown W_law) (zcode W_law) 1121 [(.aload_n 2, 1, 0, 0, 0), (.aload_n 0, 1, 0, 0, 0), (.iload_n 3, 1, 0, 0, 0), (.iconst 1, 1, 1, 0, 0), (.iadd, 1, 0, 0, 0), (.iaload, 1, 0, 0, 0)] 1127 = true := by decide +kernel
theorem W_law_s1133 : zseg (zown W_law) (zcode W_law) 1133 [(.iconst 0, 1, 0, 0, 0)] 1134 = true := by decide +kernel
theorem W_law_s1135 : zseg (zown W_law) (zcode W_law) 1135 [(.aload_n 1, 1, 0, 0, 0), (.aload_n 0, 1, 0, 0, 0), (.iload_n 3, 1, 0, 0, 0), (.iconst 1, 1, 1, 0, 0), (.iadd, 1, 0, 0, 0), (.iaload, 1, 0, 0, 0)] 1141 = true := by decide +kernel
theorem W_law_s1144 : zseg (zown W_law) (zcode W_law) 1144 [(.aload_n 2, 1, 0, 0, 0), (.aload_n 0, 1, 0, 0, 0), (.iload_n 3, 1, 0, 0, 0), (.iconst 1, 1, 1, 0, 0), (.iadd, 1, 0, 0, 0), (.iaload, 1, 0, 0, 0)] 1150 = true := by decide +kernel
theorem W_law_s1156 : zseg (zown W_law) (zcode W_law) 1156 [(.iconst 0, 1, 0, 0, 0)] 1157 = true := by decide +kernel
theorem W_law_s1158 : zseg (zown W_law) (zcode W_law) 1158 [(.aload_n 1, 1, 0, 0, 0), (.aload_n 0, 1, 0, 0, 0), (.iload_n 3, 1, 0, 0, 0), (.iconst 1, 1, 1, 0, 0), (.iadd, 1, 0, 0, 0), (.iaload, 1, 0, 0, 0)] 1164 = true := by decide +kernel
theorem W_law_s1167 : zseg (zown W_law) (zcode W_law) 1167 [(.aload_n 2, 1, 0, 0, 0), (.aload_n 0, 1, 0, 0, 0), (.iload_n 3, 1, 0, 0, 0), (.iconst 1, 1, 1, 0, 0), (.iadd, 1, 0, 0, 0), (.iaload, 1, 0, 0, 0)] 1173 = true := by decide +kernel
theorem W_law_s1179 : zseg (zown W_law) (zcode W_law) 1179 [(.iconst 0, 1, 0, 0, 0)] 1180 = true := by decide +kernel
theorem W_law_s1181 : zseg (zown W_law) (zcode W_law) 1181 [(.aload_n 1, 1, 0, 0, 0), (.aload_n 0, 1, 0, 0, 0), (.iload_n 3, 1, 0, 0, 0), (.iconst 1, 1, 1, 0, 0), (.iadd, 1, 0, 0, 0), (.iaload, 1, 0, 0, 0), (.aload_n 0, 1, 0, 0, 0), (.iload_n 3, 1, 0, 0, 0), (.iconst 2, 1, 2, 0, 0), (.iadd, 1, 0, 0, 0), (.iaload, 1, 0, 0, 0)] 1192 = true := by decide +kernel
theorem W_law_s1195 : zseg (zown W_law) (zcode W_law) 1195 [(.aload_n 2, 1, 0, 0, 0), (.aload_n 0, 1, 0, 0, 0), (.iload_n 3, 1, 0, 0, 0), (.iconst 1, 1, 1, 0, 0), (.iadd, 1, 0, 0, 0), (.iaload, 1, 0, 0, 0), (.aload_n 0, 1, 0, 0, 0), (.iload_n 3, 1, 0, 0, 0), (.iconst 2, 1, 2, 0, 0), (.iadd, 1, 0, 0, 0), (.iaload, 1, 0, 0, 0)] 1206 = true := by decide +kernel
theorem W_law_s1212 : zseg (zown W_law) (zcode W_law) 1212 [(.iconst 0, 1, 0, 0, 0)] 1213 = true := by decide +kernel
theorem W_law_s1214 : zseg (zown W_law) (zcode W_law) 1214 [(.aload_n 1, 1, 0, 0, 0), (.aload_n 0, 1, 0, 0, 0), (.iload_n 3, 1, 0, 0, 0), (.iconst 1, 1, 1, 0, 0), (.iadd, 1, 0, 0, 0), (.iaload, 1, 0, 0, 0)] 1220 = true := by decide +kernel
theorem W_law_s1223 : zseg (zown W_law) (zcode W_law) 1223 [(.aload_n 2, 1, 0, 0, 0), (.aload_n 0, 1, 0, 0, 0), (.iload_n 3, 1, 0, 0, 0), (.iconst 1, 1, 1, 0, 0), (.iadd, 1, 0, 0, 0), (.iaload, 1, 0, 0, 0)] 1229 = true := by decide +kernel
theorem W_law_s1235 : zseg (zown W_law) (zcode W_law) 1235 [(.iconst 0, 1, 0, 0, 0)] 1236 = true := by decide +kernel
theorem W_law_s1237 : zseg (zown W_law) (zcode W_law) 1237 [(.aload_n 1, 1, 0, 0, 0)] 1238 = true := by decide +kernel
theorem W_law_s1241 : zseg (zown W_law) (zcode W_law) 1241 [(.aload_n 2, 1, 0, 0, 0)] 1242 = true := by decide +kernel
theorem W_law_s1248 : zseg (zown W_law) (zcode W_law) 1248 [(.iconst 0, 1, 0, 0, 0)] 1249 = true := by decide +kernel
theorem W_law_s1250 : zseg (zown W_law) (zcode W_law) 1250 [(.aload_n 1, 1, 0, 0, 0)] 1251 = true := by decide +kernel
theorem W_law_s1254 : zseg (zown W_law) (zcode W_law) 1254 [(.aload_n 2, 1, 0, 0, 0)] 1255 = true := by decide +kernel
theorem W_law_s1261 : zseg (zown W_law) (zcode W_law) 1261 [(.iconst 0, 1, 0, 0, 0)] 1262 = true := by decide +kernel
theorem W_law_s1263 : zseg (zown W_law) (zcode W_law) 1263 [(.aload_n 1, 1, 0, 0, 0)] 1264 = true := by decide +kernel
theorem W_law_s1267 : zseg (zown W_law) (zcode W_law) 1267 [(.aload_n 2, 1, 0, 0, 0)] 1268 = true := by decide +kernel
theorem W_law_s1274 : zseg (zown W_law) (zcode W_law) 1274 [(.iconst 0, 1, 0, 0, 0)] 1275 = true := by decide +kernel
theorem W_law_s1276 : zseg (zown W_law) (zcode W_law) 1276 [(.aload_n 1, 1, 0, 0, 0)] 1277 = true := by decide +kernel
theorem W_law_s1280 : zseg (zown W_law) (zcode W_law) 1280 [(.aload_n 2, 1, 0, 0, 0)] 1281 = true := by decide +kernel
theorem W_law_s1287 : zseg (zown W_law) (zcode W_law) 1287 [(.iconst 0, 1, 0, 0, 0)] 1288 = true := by decide +kernel
theorem W_law_s1289 : zseg (zown W_law) (zcode W_law) 1289 [(.aload_n 1, 1, 0, 0, 0), (.aload_n 0, 1, 0, 0, 0), (.iload_n 3, 1, 0, 0, 0), (.iconst 1, 1, 1, 0, 0), (.iadd, 1, 0, 0, 0), (.iaload, 1, 0, 0, 0)] 1295 = true := by decide +kernel
theorem W_law_s1298 : zseg (zown W_law) (zcode W_law) 1298 [(.aload_n 2, 1, 0, 0, 0), (.aload_n 0, 1, 0, 0, 0), (.iload_n 3, 1, 0, 0, 0), (.iconst 1, 1, 1, 0, 0), (.iadd, 1, 0, 0, 0), (.iaload, 1, 0, 0, 0)] 1304 = true := by decide +kernel
theorem W_law_s1310 : zseg (zown W_law) (zcode W_law) 1310 [(.iconst 0, 1, 0, 0, 0)] 1311 = true := by decide +kernel
theorem W_law_s1312 : zseg (zown W_law) (zcode W_law) 1312 [(.aload_n 1, 1, 0, 0, 0), (.aload_n 0, 1, 0, 0, 0), (.iload_n 3, 1, 0, 0, 0), (.iconst 1, 1, 1, 0, 0), (.iadd, 1, 0, 0, 0), (.iaload, 1, 0, 0, 0), (.aload_n 0, 1, 0, 0, 0), (.iload_n 3, 1, 0, 0, 0), (.iconst 2, 1, 2, 0, 0), (.iadd, 1, 0, 0, 0), (.iaload, 1, 0, 0, 0), (.aload_n 0, 1, 0, 0, 0), (.iload_n 3, 1, 0, 0, 0), (.iconst 3, 1, 3, 0, 0), (.iadd, 1, 0, 0, 0), (.iaload, 1, 0, 0, 0)] 1328 = true := by decide +kernel
theorem W_law_s1331 : zseg (zown W_law) (zcode W_law) 1331 [(.aload_n 2, 1, 0, 0, 0), (.aload_n 0, 1, 0, 0, 0), (.iload_n 3, 1, 0, 0, 0), (.iconst 1, 1, 1, 0, 0), (.iadd, 1, 0, 0, 0), (.iaload, 1, 0, 0, 0), (.aload_n 0, 1, 0, 0, 0), (.iload_n 3, 1, 0, 0, 0), (.iconst 2, 1, 2, 0, 0), (.iadd, 1, 0, 0, 0), (.iaload, 1, 0, 0, 0), (.aload_n 0, 1, 0, 0, 0), (.iload_n 3, 1, 0, 0, 0), (.iconst 3, 1, 3, 0, 0), (.iadd, 1, 0, 0, 0), (.iaload, 1, 0, 0, 0)] 1347 = true := by decide +kernel
theorem W_law_s1353 : zseg (zown W_law) (zcode W_law) 1353 [(.iconst 0, 1, 0, 0, 0)] 1354 = true := by decide +kernel
theorem W_law_s1355 : zseg (zown W_law) (zcode W_law) 1355 [(.aload_n 1, 1, 0, 0, 0), (.aload_n 0, 1, 0, 0, 0), (.iload_n 3, 1, 0, 0, 0), (.iconst 1, 1, 1, 0, 0), (.iadd, 1, 0, 0, 0), (.iaload, 1, 0, 0, 0)] 1361 = true := by decide +kernel
theorem W_law_s1364 : zseg (zown W_law) (zcode W_law) 1364 [(.aload_n 2, 1, 0, 0, 0), (.aload_n 0, 1, 0, 0, 0), (.iload_n 3, 1, 0, 0, 0), (.iconst 1, 1, 1, 0, 0), (.iadd, 1, 0, 0, 0), (.iaload, 1, 0, 0, 0)] 1370 = true := by decide +kernel
theorem W_law_s1376 : zseg (zown W_law) (zcode W_law) 1376 [(.iconst 0, 1, 0, 0, 0)] 1377 = true := by decide +kernel
theorem W_law_s1378 : zseg (zown W_law) (zcode W_law) 1378 [(.aload_n 1, 1, 0, 0, 0), (.aload_n 0, 1, 0, 0, 0), (.iload_n 3, 1, 0, 0, 0), (.iconst 1, 1, 1, 0, 0), (.iadd, 1, 0, 0, 0), (.iaload, 1, 0, 0, 0), (.aload_n 0, 1, 0, 0, 0), (.iload_n 3, 1, 0, 0, 0), (.iconst 2, 1, 2, 0, 0), (.iadd, 1, 0, 0, 0), (.iaload, 1, 0, 0, 0)] 1389 = true := by decide +kernel
theorem W_law_s1392 : zseg (zown W_law) (zcode W_law) 1392 [(.aload_n 2, 1, 0, 0, 0), (.aload_n 0, 1, 0, 0, 0), (.iload_n 3, 1, 0, 0, 0), (.iconst 1, 1, 1, 0, 0), (.iadd, 1, 0, 0, 0), (.iaload, 1, 0, 0, 0), (.aload_n 0, 1, 0, 0, 0), (.iload_n 3, 1, 0, 0, 0), (.iconst 2, 1, 2, 0, 0), (.iadd, 1, 0, 0, 0), (.iaload, 1, 0, 0, 0)] 1403 = true := by decide +kernel
theorem W_law_s1409 : zseg (zown W_law) (zcode W_law) 1409 [(.iconst 0, 1, 0, 0, 0)] 1410 = true := by decide +kernel
theorem W_law_s1411 : zseg (zown W_law) (zcode W_law) 1411 [(.aload_n 1, 1, 0, 0, 0), (.aload_n 0, 1, 0, 0, 0), (.iload_n 3, 1, 0, 0, 0), (.iconst 1, 1, 1, 0, 0), (.iadd, 1, 0, 0, 0), (.iaload, 1, 0, 0, 0), (.aload_n 0, 1, 0, 0, 0), (.iload_n 3, 1, 0, 0, 0), (.iconst 2, 1, 2, 0, 0), (.iadd, 1, 0, 0, 0), (.iaload, 1, 0, 0, 0), (.aload_n 0, 1, 0, 0, 0), (.iload_n 3, 1, 0, 0, 0), (.iconst 3, 1, 3, 0, 0), (.iadd, 1, 0, 0, 0), (.iaload, 1, 0, 0, 0)] 1427 = true := by decide +kernel
theorem W_law_s1430 : zseg (zown W_law) (zcode W_law) 1430 [(.aload_n 2, 1, 0, 0, 0), (.aload_n 0, 1, 0, 0, 0), (.iload_n 3, 1, 0, 0, 0), (.iconst 1, 1, 1, 0, 0), (.iadd, 1, 0, 0, 0), (.iaload, 1, 0, 0, 0), (.aload_n 0, 1, 0, 0, 0), (.iload_n 3, 1, 0, 0, 0), (.iconst 2, 1, 2, 0, 0), (.iadd, 1, 0, 0, 0), (.iaload, 1, 0, 0, 0), (.aload_n 0, 1, 0, 0, 0), (.iload_n 3, 1, 0, 0, 0), (.iconst 3, 1, 3, 0, 0), (.iadd, 1, 0, 0, 0), (.iaload, 1, 0, 0, 0)] 1446 = true := by decide +kernel
theorem W_law_s1452 : zseg (zown W_law) (zcode W_law) 1452 [(.iconst 0, 1, 0, 0, 0)] 1453 = true := by decide +kernel
theorem W_law_s1454 : zseg (zown W_law) (zcode W_law) 1454 [(.aload_n 1, 1, 0, 0, 0), (.aload_n 0, 1, 0, 0, 0), (.iload_n 3, 1, 0, 0, 0), (.iconst 1, 1, 1, 0, 0), (.iadd, 1, 0, 0, 0), (.iaload, 1, 0, 0, 0), (.aload_n 0, 1, 0, 0, 0), (.iload_n 3, 1, 0, 0, 0), (.iconst 2, 1, 2, 0, 0), (.iadd, 1, 0, 0, 0), (.iaload, 1, 0, 0, 0), (.aload_n 0, 1, 0, 0, 0), (.iload_n 3, 1, 0, 0, 0), (.iconst 3, 1, 3, 0, 0), (.iadd, 1, 0, 0, 0), (.iaload, 1, 0, 0, 0), (.i2l, 1, 0, 0, 0), (.bipush 32, 2, 32, 0, 0), (.lshl, 1, 0, 0, 0), (.aload_n 0, 1, 0, 0, 0), (.iload_n 3, 1, 0, 0, 0), (.iconst 4, 1, 4, 0, 0), (.iadd, 1, 0, 0, 0), (.iaload, 1, 0, 0, 0), (.i2l, 1, 0, 0, 0), (.ldc2_w 170, 3, 0, 0, 2), (.land, 1, 0, 0, 0), (.lor, 1, 0, 0, 0)] 1485 = true := by decide +kernel
theorem W_law_s1488 : zseg (zown W_law) (zcode W_law) 1488 [(.aload_n 2, 1, 0, 0, 0), (.aload_n 0, 1, 0, 0, 0), (.iload_n 3, 1, 0, 0, 0), (.iconst 1, 1, 1, 0, 0), (.iadd, 1, 0, 0, 0), (.iaload, 1, 0, 0, 0), (.aload_n 0, 1, 0, 0, 0), (.iload_n 3, 1, 0, 0, 0), (.iconst 2, 1, 2, 0, 0), (.iadd, 1, 0, 0, 0), (.iaload, 1, 0, 0, 0), (.aload_n 0, 1, 0, 0, 0), (.iload_n 3, 1, 0, 0, 0), (.iconst 3, 1, 3, 0, 0), (.iadd, 1, 0, 0, 0), (.iaload, 1, 0, 0, 0), (.i2l, 1, 0, 0, 0), (.bipush 32, 2, 32, 0, 0), (.lshl, 1, 0, 0, 0), (.aload_n 0, 1, 0, 0, 0), (.iload_n 3, 1, 0, 0, 0), (.iconst 4, 1, 4, 0, 0), (.iadd, 1, 0, 0, 0), (.iaload, 1, 0, 0, 0), (.i2l, 1, 0, 0, 0), (.ldc2_w 170, 3, 0, 0, 2), (.land, 1, 0, 0, 0), (.lor, 1, 0, 0, 0)] 1519 = true := by decide +kernel
theorem W_law_s1525 : zseg (zown W_law) (zcode W_law) 1525 [(.iconst 0, 1, 0, 0, 0)] 1526 = true := by decide +kernel
theorem W_law_s1527 : zseg (zown W_law) (zcode W_law) 1527 [(.aload_n 1, 1, 0, 0, 0), (.aload_n 0, 1, 0, 0, 0), (.iload_n 3, 1, 0, 0, 0), (.iconst 1, 1, 1, 0, 0), (.iadd, 1, 0, 0, 0), (.iaload, 1, 0, 0, 0), (.aload_n 0, 1, 0, 0, 0), (.iload_n 3, 1, 0, 0, 0), (.iconst 2, 1, 2, 0, 0), (.iadd, 1, 0, 0, 0), (.iaload, 1, 0, 0, 0)] 1538 = true := by decide +kernel
theorem W_law_s1541 : zseg (zown W_law) (zcode W_law) 1541 [(.aload_n 2, 1, 0, 0, 0), (.aload_n 0, 1, 0, 0, 0), (.iload_n 3, 1, 0, 0, 0), (.iconst 1, 1, 1, 0, 0), (.iadd, 1, 0, 0, 0), (.iaload, 1, 0, 0, 0), (.aload_n 0, 1, 0, 0, 0), (.iload_n 3, 1, 0, 0, 0), (.iconst 2, 1, 2, 0, 0), (.iadd, 1, 0, 0, 0), (.iaload, 1, 0, 0, 0)] 1552 = true := by decide +kernel
theorem W_law_s1555 : zseg (zown W_law) (zcode W_law) 1555 [(.lcmp, 1, 0, 0, 0)] 1556 = true := by decide +kernel
theorem W_law_s1559 : zseg (zown W_law) (zcode W_law) 1559 [(.iconst 0, 1, 0, 0, 0)] 1560 = true := by decide +kernel
theorem W_law_s1561 : zseg (zown W_law) (zcode W_law) 1561 [(.aload_n 1, 1, 0, 0, 0), (.aload_n 0, 1, 0, 0, 0), (.iload_n 3, 1, 0, 0, 0), (.iconst 1, 1, 1, 0, 0), (.iadd, 1, 0, 0, 0), (.iaload, 1, 0, 0, 0), (.aload_n 0, 1, 0, 0, 0), (.iload_n 3, 1, 0, 0, 0), (.iconst 2, 1, 2, 0, 0), (.iadd, 1, 0, 0, 0), (.iaload, 1, 0, 0, 0), (.aload_n 0, 1, 0, 0, 0), (.iload_n 3, 1, 0, 0, 0), (.iconst 3, 1, 3, 0, 0), (.iadd, 1, 0, 0, 0), (.iaload, 1, 0, 0, 0), (.aload_n 0, 1, 0, 0, 0), (.iload_n 3, 1, 0, 0, 0), (.iconst 4, 1, 4, 0, 0), (.iadd, 1, 0, 0, 0), (.iaload, 1, 0, 0, 0), (.aload_n 0, 1, 0, 0, 0), (.iload_n 3, 1, 0, 0, 0), (.iconst 5, 1, 5, 0, 0), (.iadd, 1, 0, 0, 0), (.iaload, 1, 0, 0, 0)] 1587 = true := by decide +kernel
theorem W_law_s1590 : zseg (zown W_law) (zcode W_law) 1590 [(.aload_n 2, 1, 0, 0, 0), (.aload_n 0, 1, 0, 0, 0), (.iload_n 3, 1, 0, 0, 0), (.iconst 1, 1, 1, 0, 0), (.iadd, 1, 0, 0, 0), (.iaload, 1, 0, 0, 0), (.aload_n 0, 1, 0, 0, 0), (.iload_n 3, 1, 0, 0, 0), (.iconst 2, 1, 2, 0, 0), (.iadd, 1, 0, 0, 0), (.iaload, 1, 0, 0, 0), (.aload_n 0, 1, 0, 0, 0), (.iload_n 3, 1, 0, 0, 0), (.iconst 3, 1, 3, 0, 0), (.iadd, 1, 0, 0, 0), (.iaload, 1, 0, 0, 0), (.aload_n 0, 1, 0, 0, 0), (.iload_n 3, 1, 0, 0, 0), (.iconst 4, 1, 4, 0, 0), (.iadd, 1, 0, 0, 0), (.iaload, 1, 0, 0, 0), (.aload_n 0, 1, 0, 0, 0), (.iload_n 3, 1, 0, 0, 0), (.iconst 5, 1, 5, 0, 0), (.iadd, 1, 0, 0, 0), (.iaload, 1, 0, 0, 0)] 1616 = true := by decide +kernel
theorem W_law_s1622 : zseg (zown W_law) (zcode W_law) 1622 [(.iconst 0, 1, 0, 0, 0)] 1623 = true := by decide +kernel
theorem W_law_s1624 : zseg (zown W_law) (zcode W_law) 1624 [(.aload_n 1, 1, 0, 0, 0), (.aload_n 0, 1, 0, 0, 0), (.iload_n 3, 1, 0, 0, 0), (.iconst 1, 1, 1, 0, 0), (.iadd, 1, 0, 0, 0), (.iaload, 1, 0, 0, 0), (.aload_n 0, 1, 0, 0, 0), (.iload_n 3, 1, 0, 0, 0), (.iconst 2, 1, 2, 0, 0), (.iadd, 1, 0, 0, 0), (.iaload, 1, 0, 0, 0)] 1635 = true := by decide +kernel
theorem W_law_s1638 : zseg (zown W_law) (zcode W_law) 1638 [(.aload_n 2, 1, 0, 0, 0), (.aload_n 0, 1, 0, 0, 0), (.iload_n 3, 1, 0, 0, 0), (.iconst 1, 1, 1, 0, 0), (.iadd, 1, 0, 0, 0), (.iaload, 1, 0, 0, 0), (.aload_n 0, 1, 0, 0, 0), (.iload_n 3, 1, 0, 0, 0), (.iconst 2, 1, 2, 0, 0), (.iadd, 1, 0, 0, 0), (.iaload, 1, 0, 0, 0)] 1649 = true := by decide +kernel
theorem W_law_s1655 : zseg (zown W_law) (zcode W_law) 1655 [(.iconst 0, 1, 0, 0, 0)] 1656 = true := by decide +kernel
theorem W_law_s1657 : zseg (zown W_law) (zcode W_law) 1657 [(.aload_n 1, 1, 0, 0, 0), (.aload_n 0, 1, 0, 0, 0), (.iload_n 3, 1, 0, 0, 0), (.iconst 1, 1, 1, 0, 0), (.iadd, 1, 0, 0, 0), (.iaload, 1, 0, 0, 0)] 1663 = true := by decide +kernel
theorem W_law_s1666 : zseg (zown W_law) (zcode W_law) 1666 [(.aload_n 2, 1, 0, 0, 0), (.aload_n 0, 1, 0, 0, 0), (.iload_n 3, 1, 0, 0, 0), (.iconst 1, 1, 1, 0, 0), (.iadd, 1, 0, 0, 0), (.iaload, 1, 0, 0, 0)] 1672 = true := by decide +kernel
theorem W_law_s1678 : zseg (zown W_law) (zcode W_law) 1678 [(.iconst 0, 1, 0, 0, 0)] 1679 = true := by decide +kernel
theorem W_law_s1680 : zseg (zown W_law) (zcode W_law) 1680 [(.iinc 3 6, 3, 6, 0, 0), (.goto (-1665), 3, 0, 0, 0)] 18 = true := by decide +kernel
theorem W_law_s1686 : zseg (zown W_law) (zcode W_law) 1686 [(.iconst 1, 1, 1, 0, 0)] 1687 = true := by decide +kernel
theorem W_law_d0 : decode (zcode W_law) 0 = .ok (.new 7, 3) := by decide +kernel
theorem W_law_d4 : decode (zcode W_law) 4 = .ok (.invokespecial 9, 3) := by decide +kernel
theorem W_law_d8 : decode (zcode W_law) 8 = .ok (.new 10, 3) := by decide +kernel
theorem W_law_d12 : decode (zcode W_law) 12 = .ok (.invokespecial 12, 3) := by decide +kernel
theorem W_law_d24 : decode (zcode W_law) 24 = .ok (.if_icmp .gt 1662, 3) := by decide +kernel
theorem W_law_d33 : decode (zcode W_law) 33 = .ok (.tableswitch 1647 0 42 #[187, 210, 243, 286, 329, 362, 385, 398, 431, 474, 507, 540, 583, 626, 659, 692, 725, 778, 821, 864, 917, 960, 1003, 1026, 1079, 1102, 1125, 1148, 1181, 1204, 1217, 1230, 1243, 1256, 1279, 1322, 1345, 1378, 1421, 1494, 1528, 1591, 1624], 187) := by decide +kernel
theorem W_law_d226 : decode (zcode W_law) 226 = .ok (.invokevirtual 13, 3) := by decide +kernel
theorem W_law_d235 : decode (zcode W_law) 235 = .ok (.invokevirtual 17, 3) := by decide +kernel
theorem W_law_d238 : decode (zcode W_law) 238 = .ok (.if_icmp .eq 1442, 3) := by decide +kernel
theorem W_law_d242 : decode (zcode W_law) 242 = .ok (.ireturn, 1) := by decide +kernel
theorem W_law_d254 : decode (zcode W_law) 254 = .ok (.invokevirtual 18, 3) := by decide +kernel
theorem W_law_d268 : decode (zcode W_law) 268 = .ok (.invokevirtual 22, 3) := by decide +kernel
theorem W_law_d271 : decode (zcode W_law) 271 = .ok (.if_icmp .eq 1409, 3) := by decide +kernel
theorem W_law_d275 : decode (zcode W_law) 275 = .ok (.ireturn, 1) := by decide +kernel
theorem W_law_d292 : decode (zcode W_law) 292 = .ok (.invokevirtual 23, 3) := by decide +kernel
theorem W_law_d311 : decode (zcode W_law) 311 = .ok (.invokevirtual 27, 3) := by decide +kernel
theorem W_law_d314 : decode (zcode W_law) 314 = .ok (.if_icmp .eq 1366, 3) := by decide +kernel
theorem W_law_d318 : decode (zcode W_law) 318 = .ok (.ireturn, 1) := by decide +kernel
theorem W_law_d335 : decode (zcode W_law) 335 = .ok (.invokevirtual 28, 3) := by decide +kernel
theorem W_law_d354 : decode (zcode W_law) 354 = .ok (.invokevirtual 31, 3) := by decide +kernel
theorem W_law_d357 : decode (zcode W_law) 357 = .ok (.if_icmp .eq 1323, 3) := by decide +kernel
theorem W_law_d361 : decode (zcode W_law) 361 = .ok (.ireturn, 1) := by decide +kernel
theorem W_law_d373 : decode (zcode W_law) 373 = .ok (.invokevirtual 32, 3) := by decide +kernel
theorem W_law_d387 : decode (zcode W_law) 387 = .ok (.invokevirtual 35, 3) := by decide +kernel
theorem W_law_d390 : decode (zcode W_law) 390 = .ok (.if_icmp .eq 1290, 3) := by decide +kernel
theorem W_law_d394 : decode (zcode W_law) 394 = .ok (.ireturn, 1) := by decide +kernel
theorem W_law_d401 : decode (zcode W_law) 401 = .ok (.invokevirtual 36, 3) := by decide +kernel
theorem W_law_d410 : decode (zcode W_law) 410 = .ok (.invokevirtual 39, 3) := by decide +kernel
theorem W_law_d413 : decode (zcode W_law) 413 = .ok (.if_icmp .eq 1267, 3) := by decide +kernel
theorem W_law_d417 : decode (zcode W_law) 417 = .ok (.ireturn, 1) := by decide +kernel
theorem W_law_d419 : decode (zcode W_law) 419 = .ok (.invokevirtual 40, 3) := by decide +kernel
theorem W_law_d423 : decode (zcode W_law) 423 = .ok (.invokevirtual 44, 3) := by decide +kernel
theorem W_law_d426 : decode (zcode W_law) 426 = .ok (.if_icmp .eq 1254, 3) := by decide +kernel
theorem W_law_d430 : decode (zcode W_law) 430 = .ok (.ireturn, 1) := by decide +kernel
theorem W_law_d442 : decode (zcode W_law) 442 = .ok (.invokevirtual 45, 3) := by decide +kernel
theorem W_law_d456 : decode (zcode W_law) 456 = .ok (.invokevirtual 48, 3) := by decide +kernel
theorem W_law_d459 : decode (zcode W_law) 459 = .ok (.if_icmp .eq 1221, 3) := by decide +kernel
theorem W_law_d463 : decode (zcode W_law) 463 = .ok (.ireturn, 1) := by decide +kernel
theorem W_law_d480 : decode (zcode W_law) 480 = .ok (.invokevirtual 49, 3) := by decide +kernel
theorem W_law_d499 : decode (zcode W_law) 499 = .ok (.invokevirtual 52, 3) := by decide +kernel
theorem W_law_d502 : decode (zcode W_law) 502 = .ok (.if_icmp .eq 1178, 3) := by decide +kernel
theorem W_law_d506 : decode (zcode W_law) 506 = .ok (.ireturn, 1) := by decide +kernel
theorem W_law_d518 : decode (zcode W_law) 518 = .ok (.invokevirtual 53, 3) := by decide +kernel
theorem W_law_d532 : decode (zcode W_law) 532 = .ok (.invokevirtual 56, 3) := by decide +kernel
theorem W_law_d535 : decode (zcode W_law) 535 = .ok (.if_icmp .eq 1145, 3) := by decide +kernel
theorem W_law_d539 : decode (zcode W_law) 539 = .ok (.ireturn, 1) := by decide +kernel
theorem W_law_d551 : decode (zcode W_law) 551 = .ok (.invokevirtual 57, 3) := by decide +kernel
theorem W_law_d565 : decode (zcode W_law) 565 = .ok (.invokevirtual 60, 3) := by decide +kernel
theorem W_law_d568 : decode (zcode W_law) 568 = .ok (.if_icmp .eq 1112, 3) := by decide +kernel
theorem W_law_d572 : decode (zcode W_law) 572 = .ok (.ireturn, 1) := by decide +kernel
theorem W_law_d589 : decode (zcode W_law) 589 = .ok (.invokevirtual 61, 3) := by decide +kernel
theorem W_law_d608 : decode (zcode W_law) 608 = .ok (.invokevirtual 64, 3) := by decide +kernel
theorem W_law_d611 : decode (zcode W_law) 611 = .ok (.if_icmp .eq 1069, 3) := by decide +kernel
theorem W_law_d615 : decode (zcode W_law) 615 = .ok (.ireturn, 1) := by decide +kernel
theorem W_law_d632 : decode (zcode W_law) 632 = .ok (.invokevirtual 65, 3) := by decide +kernel
theorem W_law_d651 : decode (zcode W_law) 651 = .ok (.invokevirtual 68, 3) := by decide +kernel
theorem W_law_d654 : decode (zcode W_law) 654 = .ok (.if_icmp .eq 1026, 3) := by decide +kernel
theorem W_law_d658 : decode (zcode W_law) 658 = .ok (.ireturn, 1) := by decide +kernel
theorem W_law_d670 : decode (zcode W_law) 670 = .ok (.invokevirtual 69, 3) := by decide +kernel
theorem W_law_d684 : decode (zcode W_law) 684 = .ok (.invokevirtual 72, 3) := by decide +kernel
theorem W_law_d687 : decode (zcode W_law) 687 = .ok (.if_icmp .eq 993, 3) := by decide +kernel
theorem W_law_d691 : decode (zcode W_law) 691 = .ok (.ireturn, 1) := by decide +kernel
theorem W_law_d703 : decode (zcode W_law) 703 = .ok (.invokevirtual 73, 3) := by decide +kernel
theorem W_law_d717 : decode (zcode W_law) 717 = .ok (.invokevirtual 76, 3) := by decide +kernel
theorem W_law_d720 : decode (zcode W_law) 720 = .ok (.if_icmp .eq 960, 3) := by decide +kernel
theorem W_law_d724 : decode (zcode W_law) 724 = .ok (.ireturn, 1) := by decide +kernel
theorem W_law_d736 : decode (zcode W_law) 736 = .ok (.invokevirtual 77, 3) := by decide +kernel
theorem W_law_d750 : decode (zcode W_law) 750 = .ok (.invokevirtual 80, 3) := by decide +kernel
theorem W_law_d753 : decode (zcode W_law) 753 = .ok (.if_icmp .eq 927, 3) := by decide +kernel
theorem W_law_d757 : decode (zcode W_law) 757 = .ok (.ireturn, 1) := by decide +kernel
theorem W_law_d779 : decode (zcode W_law) 779 = .ok (.invokevirtual 81, 3) := by decide +kernel
theorem W_law_d803 : decode (zcode W_law) 803 = .ok (.invokevirtual 85, 3) := by decide +kernel
theorem W_law_d806 : decode (zcode W_law) 806 = .ok (.if_icmp .eq 874, 3) := by decide +kernel
theorem W_law_d810 : decode (zcode W_law) 810 = .ok (.ireturn, 1) := by decide +kernel
theorem W_law_d827 : decode (zcode W_law) 827 = .ok (.invokevirtual 86, 3) := by decide +kernel
theorem W_law_d846 : decode (zcode W_law) 846 = .ok (.invokevirtual 89, 3) := by decide +kernel
theorem W_law_d849 : decode (zcode W_law) 849 = .ok (.if_icmp .eq 831, 3) := by decide +kernel
theorem W_law_d853 : decode (zcode W_law) 853 = .ok (.ireturn, 1) := by decide +kernel
theorem W_law_d870 : decode (zcode W_law) 870 = .ok (.invokevirtual 90, 3) := by decide +kernel
theorem W_law_d889 : decode (zcode W_law) 889 = .ok (.invokevirtual 93, 3) := by decide +kernel
theorem W_law_d892 : decode (zcode W_law) 892 = .ok (.if_icmp .eq 788, 3) := by decide +kernel
theorem W_law_d896 : decode (zcode W_law) 896 = .ok (.ireturn, 1) := by decide +kernel
theorem W_law_d918 : decode (zcode W_law) 918 = .ok (.invokevirtual 94, 3) := by decide +kernel
theorem W_law_d942 : decode (zcode W_law) 942 = .ok (.invokevirtual 97, 3) := by decide +kernel
theorem W_law_d945 : decode (zcode W_law) 945 = .ok (.if_icmp .eq 735, 3) := by decide +kernel
theorem W_law_d949 : decode (zcode W_law) 949 = .ok (.ireturn, 1) := by decide +kernel
theorem W_law_d966 : decode (zcode W_law) 966 = .ok (.invokevirtual 98, 3) := by decide +kernel
theorem W_law_d985 : decode (zcode W_law) 985 = .ok (.invokevirtual 101, 3) := by decide +kernel
theorem W_law_d988 : decode (zcode W_law) 988 = .ok (.if_icmp .eq 692, 3) := by decide +kernel
theorem W_law_d992 : decode (zcode W_law) 992 = .ok (.ireturn, 1) := by decide +kernel
theorem W_law_d1009 : decode (zcode W_law) 1009 = .ok (.invokevirtual 102, 3) := by decide +kernel
theorem W_law_d1028 : decode (zcode W_law) 1028 = .ok (.invokevirtual 105, 3) := by decide +kernel
theorem W_law_d1031 : decode (zcode W_law) 1031 = .ok (.if_icmp .eq 649, 3) := by decide +kernel
theorem W_law_d1035 : decode (zcode W_law) 1035 = .ok (.ireturn, 1) := by decide +kernel
theorem W_law_d1042 : decode (zcode W_law) 1042 = .ok (.invokevirtual 106, 3) := by decide +kernel
theorem W_law_d1051 : decode (zcode W_law) 1051 = .ok (.invokevirtual 109, 3) := by decide +kernel
theorem W_law_d1054 : decode (zcode W_law) 1054 = .ok (.if_icmp .eq 626, 3) := by decide +kernel
theorem W_law_d1058 : decode (zcode W_law) 1058 = .ok (.ireturn, 1) := by decide +kernel
theorem W_law_d1080 : decode (zcode W_law) 1080 = .ok (.invokevirtual 110, 3) := by decide +kernel
theorem W_law_d1104 : decode (zcode W_law) 1104 = .ok (.invokevirtual 113, 3) := by decide +kernel
theorem W_law_d1107 : decode (zcode W_law) 1107 = .ok (.if_icmp .eq 573, 3) := by decide +kernel
theorem W_law_d1111 : decode (zcode W_law) 1111 = .ok (.ireturn, 1) := by decide +kernel
theorem W_law_d1118 : decode (zcode W_law) 1118 = .ok (.invokevirtual 114, 3) := by decide +kernel
theorem W_law_d1127 : decode (zcode W_law) 1127 = .ok (.invokevirtual 117, 3) := by decide +kernel
theorem W_law_d1130 : decode (zcode W_law) 1130 = .ok (.if_icmp .eq 550, 3) := by decide +kernel
theorem W_law_d1134 : decode (zcode W_law) 1134 = .ok (.ireturn, 1) := by decide +kernel
theorem W_law_d1141 : decode (zcode W_law) 1141 = .ok (.invokevirtual 118, 3) := by decide +kernel
theorem W_law_d1150 : decode (zcode W_law) 1150 = .ok (.invokevirtual 121, 3) := by decide +kernel
theorem W_law_d1153 : decode (zcode W_law) 1153 = .ok (.if_icmp .eq 527, 3) := by decide +kernel
theorem W_law_d1157 : decode (zcode W_law) 1157 = .ok (.ireturn, 1) := by decide +kernel
theorem W_law_d1164 : decode (zcode W_law) 1164 = .ok (.invokevirtual 122, 3) := by decide +kernel
theorem W_law_d1173 : decode (zcode W_law) 1173 = .ok (.invokevirtual 125, 3) := by decide +kernel
theorem W_law_d1176 : decode (zcode W_law) 1176 = .ok (.if_icmp .eq 504, 3) := by decide +kernel
theorem W_law_d1180 : decode (zcode W_law) 1180 = .ok (.ireturn, 1) := by decide +kernel
theorem W_law_d1192 : decode (zcode W_law) 1192 = .ok (.invokevirtual 126, 3) := by decide +kernel
theorem W_law_d1206 : decode (zcode W_law) 1206 = .ok (.invokevirtual 129, 3) := by decide +kernel
theorem W_law_d1209 : decode (zcode W_law) 1209 = .ok (.if_icmp .eq 471, 3) := by decide +kernel
theorem W_law_d1213 : decode (zcode W_law) 1213 = .ok (.ireturn, 1) := by decide +kernel
theorem W_law_d1220 : decode (zcode W_law) 1220 = .ok (.invokevirtual 130, 3) := by decide +kernel
theorem W_law_d1229 : decode (zcode W_law) 1229 = .ok (.invokevirtual 133, 3) := by decide +kernel
theorem W_law_d1232 : decode (zcode W_law) 1232 = .ok (.if_icmp .eq 448, 3) := by decide +kernel
theorem W_law_d1236 : decode (zcode W_law) 1236 = .ok (.ireturn, 1) := by decide +kernel
theorem W_law_d1238 : decode (zcode W_law) 1238 = .ok (.invokevirtual 134, 3) := by decide +kernel
theorem W_law_d1242 : decode (zcode W_law) 1242 = .ok (.invokevirtual 137, 3) := by decide +kernel
theorem W_law_d1245 : decode (zcode W_law) 1245 = .ok (.if_icmp .eq 435, 3) := by decide +kernel
theorem W_law_d1249 : decode (zcode W_law) 1249 = .ok (.ireturn, 1) := by decide +kernel
theorem W_law_d1251 : decode (zcode W_law) 1251 = .ok (.invokevirtual 138, 3) := by decide +kernel
theorem W_law_d1255 : decode (zcode W_law) 1255 = .ok (.invokevirtual 141, 3) := by decide +kernel
theorem W_law_d1258 : decode (zcode W_law) 1258 = .ok (.if_icmp .eq 422, 3) := by decide +kernel
theorem W_law_d1262 : decode (zcode W_law) 1262 = .ok (.ireturn, 1) := by decide +kernel
theorem W_law_d1264 : decode (zcode W_law) 1264 = .ok (.invokevirtual 142, 3) := by decide +kernel
theorem W_law_d1268 : decode (zcode W_law) 1268 = .ok (.invokevirtual 145, 3) := by decide +kernel
theorem W_law_d1271 : decode (zcode W_law) 1271 = .ok (.if_icmp .eq 409, 3) := by decide +kernel
theorem W_law_d1275 : decode (zcode W_law) 1275 = .ok (.ireturn, 1) := by decide +kernel
theorem W_law_d1277 : decode (zcode W_law) 1277 = .ok (.invokevirtual 146, 3) := by decide +kernel
theorem W_law_d1281 : decode (zcode W_law) 1281 = .ok (.invokevirtual 149, 3) := by decide +kernel
theorem W_law_d1284 : decode (zcode W_law) 1284 = .ok (.if_icmp .eq 396, 3) := by decide +kernel
theorem W_law_d1288 : decode (zcode W_law) 1288 = .ok (.ireturn, 1) := by decide +kernel
theorem W_law_d1295 : decode (zcode W_law) 1295 = .ok (.invokevirtual 150, 3) := by decide +kernel
theorem W_law_d1304 : decode (zcode W_law) 1304 = .ok (.invokevirtual 153, 3) := by decide +kernel
theorem W_law_d1307 : decode (zcode W_law) 1307 = .ok (.if_icmp .eq 373, 3) := by decide +kernel
theorem W_law_d1311 : decode (zcode W_law) 1311 = .ok (.ireturn, 1) := by decide +kernel
theorem W_law_d1328 : decode (zcode W_law) 1328 = .ok (.invokevirtual 154, 3) := by decide +kernel
theorem W_law_d1347 : decode (zcode W_law) 1347 = .ok (.invokevirtual 157, 3) := by decide +kernel
theorem W_law_d1350 : decode (zcode W_law) 1350 = .ok (.if_icmp .eq 330, 3) := by decide +kernel
theorem W_law_d1354 : decode (zcode W_law) 1354 = .ok (.ireturn, 1) := by decide +kernel
theorem W_law_d1361 : decode (zcode W_law) 1361 = .ok (.invokevirtual 158, 3) := by decide +kernel
theorem W_law_d1370 : decode (zcode W_law) 1370 = .ok (.invokevirtual 161, 3) := by decide +kernel
theorem W_law_d1373 : decode (zcode W_law) 1373 = .ok (.if_icmp .eq 307, 3) := by decide +kernel
theorem W_law_d1377 : decode (zcode W_law) 1377 = .ok (.ireturn, 1) := by decide +kernel
theorem W_law_d1389 : decode (zcode W_law) 1389 = .ok (.invokevirtual 162, 3) := by decide +kernel
theorem W_law_d1403 : decode (zcode W_law) 1403 = .ok (.invokevirtual 165, 3) := by decide +kernel
theorem W_law_d1406 : decode (zcode W_law) 1406 = .ok (.if_icmp .eq 274, 3) := by decide +kernel
theorem W_law_d1410 : decode (zcode W_law) 1410 = .ok (.ireturn, 1) := by decide +kernel
theorem W_law_d1427 : decode (zcode W_law) 1427 = .ok (.invokevirtual 166, 3) := by decide +kernel
theorem W_law_d1446 : decode (zcode W_law) 1446 = .ok (.invokevirtual 169, 3) := by decide +kernel
theorem W_law_d1449 : decode (zcode W_law) 1449 = .ok (.if_icmp .eq 231, 3) := by decide +kernel
theorem W_law_d1453 : decode (zcode W_law) 1453 = .ok (.ireturn, 1) := by decide +kernel
theorem W_law_d1485 : decode (zcode W_law) 1485 = .ok (.invokevirtual 172, 3) := by decide +kernel
theorem W_law_d1519 : decode (zcode W_law) 1519 = .ok (.invokevirtual 176, 3) := by decide +kernel
theorem W_law_d1522 : decode (zcode W_law) 1522 = .ok (.if_icmp .eq 158, 3) := by decide +kernel
theorem W_law_d1526 : decode (zcode W_law) 1526 = .ok (.ireturn, 1) := by decide +kernel
theorem W_law_d1538 : decode (zcode W_law) 1538 = .ok (.invokevirtual 177, 3) := by decide +kernel
theorem W_law_d1552 : decode (zcode W_law) 1552 = .ok (.invokevirtual 181, 3) := by decide +kernel
theorem W_law_d1556 : decode (zcode W_law) 1556 = .ok (.ifCond .eq 124, 3) := by decide +kernel
theorem W_law_d1560 : decode (zcode W_law) 1560 = .ok (.ireturn, 1) := by decide +kernel
theorem W_law_d1587 : decode (zcode W_law) 1587 = .ok (.invokevirtual 182, 3) := by decide +kernel
theorem W_law_d1616 : decode (zcode W_law) 1616 = .ok (.invokevirtual 186, 3) := by decide +kernel
theorem W_law_d1619 : decode (zcode W_law) 1619 = .ok (.if_icmp .eq 61, 3) := by decide +kernel
theorem W_law_d1623 : decode (zcode W_law) 1623 = .ok (.ireturn, 1) := by decide +kernel
theorem W_law_d1635 : decode (zcode W_law) 1635 = .ok (.invokevirtual 187, 3) := by decide +kernel
theorem W_law_d1649 : decode (zcode W_law) 1649 = .ok (.invokevirtual 190, 3) := by decide +kernel
theorem W_law_d1652 : decode (zcode W_law) 1652 = .ok (.if_icmp .eq 28, 3) := by decide +kernel
theorem W_law_d1656 : decode (zcode W_law) 1656 = .ok (.ireturn, 1) := by decide +kernel
theorem W_law_d1663 : decode (zcode W_law) 1663 = .ok (.invokevirtual 191, 3) := by decide +kernel
theorem W_law_d1672 : decode (zcode W_law) 1672 = .ok (.invokevirtual 194, 3) := by decide +kernel
theorem W_law_d1675 : decode (zcode W_law) 1675 = .ok (.if_icmp .eq 5, 3) := by decide +kernel
theorem W_law_d1679 : decode (zcode W_law) 1679 = .ok (.ireturn, 1) := by decide +kernel
theorem W_law_d1687 : decode (zcode W_law) 1687 = .ok (.ireturn, 1) := by decide +kernel
